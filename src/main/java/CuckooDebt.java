import java.util.Arrays;
import java.util.NoSuchElementException;

/** Hills in which one owes, at each cuckoo's call, some pence to whoever is nearest. */
public final class CuckooDebt {
    public static final int NONE = -1;

    private static final int HOURS = 24;
    private static final int LAST_HOUR = 23;
    private static final int ROW = 8;
    private static final int CELLS = 64;
    private static final int MOST_PEOPLE = 6;
    private static final int MOST_BIRDS = 5;
    private static final int MOST_CALLS = 30;
    private static final int MOST_TIMES = 9;
    private static final int MOST_FAR = 14;
    private static final int MOST_NUMBER = 9999;
    private static final int MOST_SIGNS = 1000;
    private static final int MARKS = 4;
    private static final int NO_JUNE = -2;

    private final Tape tape;
    private final Land land;
    private final Land draft;
    private final Reader reader;
    private final Deeds deeds;
    private final Deeds[] marks;
    private int laid;
    private final History history;
    private final Debts debts;
    private final Game game;
    private final Songs songs;
    private final June juneDay;

    public CuckooDebt() {
        tape = new Tape();
        land = new Land();
        draft = new Land();
        reader = new Reader(tape, draft);
        deeds = new Deeds();
        marks = new Deeds[MARKS];
        for (int i = 0; i < MARKS; i++) {
            marks[i] = new Deeds();
        }
        history = new History();
        debts = new Debts(land, deeds);
        game = new Game(land, deeds, debts);
        songs = new Songs(land, deeds, debts);
        juneDay = new June(land, deeds, debts);
    }

    public int feed(long a, long b, long c) {
        tape.addBytes(a);
        tape.addBytes(b);
        tape.addBytes(c);
        return tape.length;
    }

    public int hills() {
        int fault = reader.read();
        tape.length = 0;
        if (fault == 0) {
            land.copyFrom(draft);
            deeds.begin(land);
            history.size = 0;
            laid = 0;
            debts.forget();
        }
        return fault;
    }

    public int person(int person, int what) {
        if (!isPerson(person)) {
            return NONE;
        }
        switch (what) {
            case 0:
                return land.kind[person];
            case 1:
                return land.purse[person];
            default:
                return NONE;
        }
    }

    public int place(int person, int hour) {
        if (!isPerson(person) || !isHour(hour)) {
            return NONE;
        }
        return land.place[person * HOURS + hour];
    }

    public int bird(int bird, int what) {
        if (!isBird(bird)) {
            return NONE;
        }
        switch (what) {
            case 0:
                return land.bush[bird];
            case 1:
                return deeds.shot >> bird & 1;
            case 2:
                return deeds.timesOfDay(bird);
            default:
                return NONE;
        }
    }

    public int calls(int bird, int hour) {
        if (!isBird(bird) || !isHour(hour)) {
            return NONE;
        }
        return deeds.times[bird * HOURS + hour];
    }

    public int entry(int bird, int hour, int person, boolean to) {
        if (!isBird(bird) || !isHour(hour) || !isPerson(person)) {
            return NONE;
        }
        debts.allAsTold();
        debts.lookRound(hour);
        int times = debts.heard(bird, hour, deeds.shot);
        if (to) {
            return times > 0 ? debts.creditor(bird, hour, person) : NONE;
        }
        return debts.pence(bird, hour, person, times);
    }

    public int owed(int debtor, int creditor) {
        if (!isPerson(debtor) || !isPerson(creditor) || debtor == creditor) {
            return NONE;
        }
        debts.allAsTold();
        debts.tally(deeds.shot);
        return debts.sums[debtor * MOST_PEOPLE + creditor];
    }

    public int balance(int person) throws NoSuchElementException {
        if (!isPerson(person)) {
            throw new NoSuchElementException("no such person");
        }
        return balanceAsTold(person, deeds.shot);
    }

    public boolean call(int bird, int hour, int times) {
        if (!isBird(bird) || !isHour(hour) || times < 0 || times > MOST_TIMES) {
            return false;
        }
        int before = deeds.times[bird * HOURS + hour];
        if (before == times || before == 0 && deeds.callCount() >= MOST_CALLS) {
            return false;
        }
        history.remember(bird, hour, before);
        deeds.times[bird * HOURS + hour] = times;
        return true;
    }

    public boolean shoot(int bird, boolean shot) {
        if (!isBird(bird) || deeds.isShot(bird) == shot) {
            return false;
        }
        history.remember(bird, NONE, 0);
        deeds.shot ^= 1 << bird;
        return true;
    }

    public boolean undo() {
        return history.takeBack(deeds);
    }

    public int stand(int person, int from, int to, int what) throws NoSuchElementException {
        if (!isPerson(person) || !areHours(from, to) || what < 0 || what > 1) {
            throw new NoSuchElementException("no such person, hours or question");
        }
        game.standOf(person, from, to);
        return what == 0 ? game.bestCell : game.bestBalance;
    }

    public int played(int from, int to, int what) {
        if (!areHours(from, to) || what < 0 || what >= 2 + land.people) {
            return NONE;
        }
        game.play(from, to);
        if (what == 0) {
            return game.rounds;
        }
        if (what == 1) {
            return game.rest ? 1 : 0;
        }
        return debts.at[(what - 2) * HOURS + from];
    }

    public int picnic(int many, int from, int to, int what) throws NoSuchElementException {
        if (many < 1 || many > land.people || !areHours(from, to) || what < 0 || what > 2) {
            throw new NoSuchElementException("no such company, hours or question");
        }
        game.picnicOf(many, from, to);
        if (what == 0) {
            return game.bestSet;
        }
        return what == 1 ? game.bestCell : game.bestBalance;
    }

    public int netted() {
        int sum = 0;
        for (int person = 0; person < land.people; person++) {
            sum += Math.max(0, balanceAsTold(person, deeds.shot));
        }
        return sum;
    }

    public int without(int bird, int person) throws NoSuchElementException {
        if (!isBird(bird) || !isPerson(person) || deeds.isShot(bird)) {
            throw new NoSuchElementException("no such bird or person");
        }
        return balanceAsTold(person, deeds.shot | 1 << bird) - balanceAsTold(person, deeds.shot);
    }

    public boolean told(int person, int pence) {
        if (!isPerson(person) || pence < NONE || pence > MOST_NUMBER) {
            return false;
        }
        deeds.debt[person] = pence;
        return true;
    }

    public int sang(int hour) {
        if (!isHour(hour)) {
            return NONE;
        }
        return songs.countRows(hour);
    }

    public int song(int hour, int i, int bird) {
        if (!isHour(hour) || i < 0 || !isBird(bird) || deeds.isShot(bird)) {
            return NONE;
        }
        return songs.findRow(hour, i) ? songs.row[bird] : NONE;
    }

    public int wooden(int what) {
        if (what < 0 || what > 1) {
            return NONE;
        }
        songs.findWooden();
        return what == 0 ? songs.found : songs.leastSet;
    }

    public int june(int what) {
        if (what != NONE && !isPerson(what)) {
            return NO_JUNE;
        }
        juneDay.collect();
        return what == NONE ? juneDay.ruined() : juneDay.purse[what];
    }

    public boolean mark(int mark, boolean back) {
        if (mark < 0 || mark >= MARKS) {
            return false;
        }
        if (!back) {
            marks[mark].copyFrom(deeds);
            laid |= 1 << mark;
            return true;
        }
        if ((laid >> mark & 1) == 0) {
            return false;
        }
        deeds.copyFrom(marks[mark]);
        history.size = 0;
        return true;
    }

    public int count(int what) {
        switch (what) {
            case 0:
                return land.wide;
            case 1:
                return land.deep;
            case 2:
                return land.people;
            case 3:
                return land.birds;
            case 4:
                return deeds.callCount();
            case 5:
                return Integer.bitCount(deeds.shot);
            case 6:
                return deeds.debtCount();
            case 7:
                return history.size;
            case 8:
                return tape.length;
            default:
                return NONE;
        }
    }

    private boolean isPerson(int person) {
        return person >= 0 && person < land.people;
    }

    private boolean isBird(int bird) {
        return bird >= 0 && bird < land.birds;
    }

    private static boolean isHour(int hour) {
        return hour >= 0 && hour < HOURS;
    }

    private static boolean areHours(int from, int to) {
        return isHour(from) && isHour(to) && from <= to;
    }

    private int balanceAsTold(int person, int silent) {
        debts.allAsTold();
        return debts.gainOf(1 << person, 0, LAST_HOUR, silent);
    }

    /** The signs that were fed, and the one token of them that is being looked at. */
    private static final class Tape {
        static final int END = 0;
        static final int NO_TOKEN = 1;
        static final int WORD = 2;
        static final int NUMBER = 3;
        static final int LETTER_BITS = 5;
        static final int MOST_LETTERS = 8;
        static final int MOST_DIGITS = 4;
        static final int FAULT_PLACE = 16;

        static final int HILLS = 0;
        static final int PERSON = 1;
        static final int AT = 2;
        static final int PURSE = 3;
        static final int GO = 4;
        static final int HOUR = 5;
        static final int BIRD = 6;
        static final int CALL = 7;
        static final int TIMES = 8;
        static final int OWE = 9;
        static final int FOG = 10;
        static final int HEAR = 11;
        static final int PLAIN = 12;
        static final int SHY = 16;
        static final int NOT = 17;
        static final int AND = 18;
        static final int OR = 19;
        static final int RESERVED = 20;
        static final int FAR = 20;
        static final int NEAR = 21;
        static final int X = 22;
        static final int Y = 23;
        static final int KEYWORDS = 24;
        // In the order of the numbers above.
        static final String KEYWORD_TEXT = "hills person at purse go hour bird call times owe fog hear plain deaf child rich shy not and or far near x y";

        final char[] signs = new char[MOST_SIGNS];
        int length;
        // A sign stands for itself as a token; their numbers are above those of the other tokens.
        int token;
        int place;
        int number;
        int keyword;
        long word;
        int fault;
        private int next;
        private final long[] keywords = new long[KEYWORDS];

        Tape() {
            int at = 0;
            for (int i = 0; i < KEYWORD_TEXT.length(); i++) {
                char sign = KEYWORD_TEXT.charAt(i);
                if (sign == ' ') {
                    at++;
                } else if (at < KEYWORDS) {
                    keywords[at] = (keywords[at] << LETTER_BITS) + (sign - 'a' + 1);
                }
            }
        }

        void addBytes(long bytes) {
            for (int shift = 56; shift >= 0; shift -= 8) {
                int sign = (int) (bytes >>> shift & 255);
                if (length < MOST_SIGNS && (sign == 10 || sign >= 32 && sign <= 126)) {
                    signs[length] = (char) sign;
                    length++;
                }
            }
        }

        void rewind() {
            next = 0;
            step();
        }

        /** Always false, so that a reader can leave with it. */
        boolean fail(int kind) {
            fault = kind + FAULT_PLACE * place;
            return false;
        }

        /** Goes on to the next token; always true, so that a reader can chain it. */
        boolean step() {
            while (next < length && (signs[next] == ' ' || signs[next] == 10)) {
                next++;
            }
            place = next;
            number = 0;
            keyword = NONE;
            word = 0;
            char sign = next < length ? signs[next] : 0;
            if (next >= length) {
                token = END;
            } else if (sign >= 'a' && sign <= 'z') {
                readWord();
            } else if (sign >= '0' && sign <= '9') {
                readNumber();
            } else {
                token = isSign(sign) ? sign : NO_TOKEN;
                next++;
            }
            return true;
        }

        boolean isName() {
            return token == WORD && (keyword == NONE || keyword >= RESERVED);
        }

        private void readWord() {
            while (next < length && signs[next] >= 'a' && signs[next] <= 'z') {
                word = (word << LETTER_BITS) + (signs[next] - 'a' + 1);
                next++;
            }
            token = next - place <= MOST_LETTERS ? WORD : NO_TOKEN;
            for (int i = 0; i < KEYWORDS && token == WORD; i++) {
                if (keywords[i] == word) {
                    keyword = i;
                }
            }
        }

        private void readNumber() {
            while (next < length && signs[next] >= '0' && signs[next] <= '9') {
                number = number * 10 + (signs[next] - '0');
                next++;
            }
            token = next - place <= MOST_DIGITS ? NUMBER : NO_TOKEN;
        }

        private static boolean isSign(char sign) {
            switch (sign) {
                case '(':
                case ')':
                case '<':
                case '=':
                case '+':
                case '-':
                case '*':
                case ';':
                    return true;
                default:
                    return false;
            }
        }
    }

    /** An E, as steps on a stack: a number is laid on it, and so is a fact. */
    private static final class Law {
        static final int HOUR = -1;
        static final int FIRST = -2;
        static final int SECOND = -3;
        static final int THIRD = -4;
        static final int NOT = -5;
        static final int TIMES = -6;
        static final int PLUS = -7;
        static final int MINUS = -8;
        static final int LESS = -9;
        static final int SAME = -10;
        static final int AND = -11;
        static final int OR = -12;
        // Four values may wait in each of the five levels of an E, and one lies on top.
        static final int STACK = 32;

        private final int[] code;
        boolean isTold;
        int from;
        int to;
        private final int[] stack = new int[STACK];

        /** The code is shared by the laws of a land, so that it need not be as long for each. */
        Law(int[] code) {
            this.code = code;
        }

        void copyFrom(Law other) {
            isTold = other.isTold;
            from = other.from;
            to = other.to;
        }

        /** First to third are far, near and times in owe, x and y in fog. */
        int value(int hour, int first, int second, int third) {
            int height = 0;
            for (int i = from; i >= 0 && i < to && i < code.length; i++) {
                int step = code[i];
                if (step > NOT) {
                    if (height < STACK) {
                        stack[height] = laid(step, hour, first, second, third);
                        height++;
                    }
                } else if (step == NOT) {
                    if (height > 0) {
                        stack[height - 1] = stack[height - 1] == 0 ? 1 : 0;
                    }
                } else if (height > 1) {
                    height--;
                    stack[height - 1] = joined(step, stack[height - 1], stack[height]);
                }
            }
            return height > 0 ? stack[0] : 0;
        }

        private static int laid(int step, int hour, int first, int second, int third) {
            switch (step) {
                case HOUR:
                    return hour;
                case FIRST:
                    return first;
                case SECOND:
                    return second;
                case THIRD:
                    return third;
                default:
                    return step;
            }
        }

        private static int joined(int step, int left, int right) {
            switch (step) {
                case TIMES:
                    return left * right;
                case PLUS:
                    return left + right;
                case MINUS:
                    return left - right;
                case LESS:
                    return left < right ? 1 : 0;
                case SAME:
                    return left == right ? 1 : 0;
                case AND:
                    return left != 0 && right != 0 ? 1 : 0;
                default:
                    return left != 0 || right != 0 ? 1 : 0;
            }
        }
    }

    /** The hills as a text tells them. */
    private static final class Land {
        static final int PLAIN = 0;
        static final int DEAF = 1;
        static final int CHILD = 2;
        static final int RICH = 3;
        static final int SHY = 4;
        static final int LEAST_SIDE = 2;
        static final int MOST_SIDE = 8;
        // More than the signs of a tape can become, with the two laws that hold untold.
        static final int CODE = 1024;

        int wide;
        int deep;
        int people;
        int birds;
        int hear;
        final int[] kind = new int[MOST_PEOPLE];
        final int[] purse = new int[MOST_PEOPLE];
        final int[] place = new int[MOST_PEOPLE * HOURS];
        final int[] bush = new int[MOST_BIRDS];
        final int[] times = new int[MOST_BIRDS * HOURS];
        final int[] code = new int[CODE];
        int codeLength;
        final Law owe = new Law(code);
        final Law fog = new Law(code);

        Land() {
            clear();
        }

        void clear() {
            wide = LEAST_SIDE;
            deep = LEAST_SIDE;
            people = 0;
            birds = 0;
            hear = MOST_FAR;
            Arrays.fill(times, 0);
            codeLength = 0;
            holdUntold(owe, 1);
            holdUntold(fog, MOST_FAR);
        }

        private void holdUntold(Law law, int always) {
            law.isTold = false;
            law.from = codeLength;
            addStep(always);
            law.to = codeLength;
        }

        void addStep(int step) {
            if (codeLength >= 0 && codeLength < CODE) {
                code[codeLength] = step;
                codeLength++;
            }
        }

        void copyFrom(Land other) {
            wide = other.wide;
            deep = other.deep;
            people = other.people;
            birds = other.birds;
            hear = other.hear;
            System.arraycopy(other.kind, 0, kind, 0, MOST_PEOPLE);
            System.arraycopy(other.purse, 0, purse, 0, MOST_PEOPLE);
            System.arraycopy(other.place, 0, place, 0, MOST_PEOPLE * HOURS);
            System.arraycopy(other.bush, 0, bush, 0, MOST_BIRDS);
            System.arraycopy(other.times, 0, times, 0, MOST_BIRDS * HOURS);
            System.arraycopy(other.code, 0, code, 0, CODE);
            codeLength = other.codeLength;
            owe.copyFrom(other.owe);
            fog.copyFrom(other.fog);
        }
    }

    /** Reads an E into a land's code. */
    private static final class LawReader {
        static final int MOST_DEPTH = 5;
        static final int JOINED = 0;
        static final int COMPARED = 1;
        static final int SUMMED = 2;
        static final int PARTS = 4;

        private final Tape tape;
        private final Land land;
        // Whether it is the law of what is owed, by which the facts differ.
        boolean owing;

        LawReader(Tape tape, Land land) {
            this.tape = tape;
            this.land = land;
        }

        /** An E from the level 0 on; the depth is how many not and ( ) it lies within. */
        boolean readLevel(int level, int depth) {
            if (level >= PARTS) {
                return readPart(depth);
            }
            if (!readLevel(level + 1, depth)) {
                return false;
            }
            int step = stepHere(level);
            for (int i = 0; i < MOST_SIGNS && step != 0; i++) {
                tape.step();
                if (!readLevel(level + 1, depth)) {
                    return false;
                }
                land.addStep(step);
                // A TEST compares once; all else goes on from the left.
                step = level == COMPARED ? 0 : stepHere(level);
            }
            return true;
        }

        /** The step of what joins two of the next level here; 0: nothing of this level. */
        private int stepHere(int level) {
            switch (level) {
                case JOINED:
                    return tape.keyword == Tape.AND ? Law.AND : tape.keyword == Tape.OR ? Law.OR : 0;
                case COMPARED:
                    return tape.token == '<' ? Law.LESS : tape.token == '=' ? Law.SAME : 0;
                case SUMMED:
                    return tape.token == '+' ? Law.PLUS : tape.token == '-' ? Law.MINUS : 0;
                default:
                    return tape.token == '*' ? Law.TIMES : 0;
            }
        }

        private boolean readPart(int depth) {
            int fact = factHere();
            boolean isNot = tape.keyword == Tape.NOT;
            if (tape.token != Tape.NUMBER && tape.token != '(' && !isNot && fact == 0) {
                return tape.fail(Reader.WRONG_TOKEN);
            }
            if (depth >= MOST_DEPTH) {
                return tape.fail(Reader.TOO_MANY);
            }
            if (isNot) {
                tape.step();
                if (!readPart(depth + 1)) {
                    return false;
                }
                land.addStep(Law.NOT);
                return true;
            }
            if (tape.token == '(') {
                tape.step();
                if (!readLevel(JOINED, depth + 1)) {
                    return false;
                }
                return tape.token == ')' ? tape.step() : tape.fail(Reader.WRONG_TOKEN);
            }
            land.addStep(fact != 0 ? fact : tape.number);
            return tape.step();
        }

        /** The step of the fact that stands here; 0: no fact of this law. */
        private int factHere() {
            switch (tape.keyword) {
                case Tape.HOUR:
                    return Law.HOUR;
                case Tape.FAR:
                    return owing ? Law.FIRST : 0;
                case Tape.NEAR:
                    return owing ? Law.SECOND : 0;
                case Tape.TIMES:
                    return owing ? Law.THIRD : 0;
                case Tape.X:
                    return owing ? 0 : Law.FIRST;
                case Tape.Y:
                    return owing ? 0 : Law.SECOND;
                default:
                    return 0;
            }
        }
    }

    /** Reads a tape into a land that nobody lives in yet. */
    private static final class Reader {
        static final int WRONG_TOKEN = 1;
        static final int UNKNOWN = 2;
        static final int TOLD_ALREADY = 3;
        static final int WRONG_NUMBER = 4;
        static final int TOO_MANY = 5;
        static final int MOST_GOES = 20;

        private final Tape tape;
        private final Land land;
        private final LawReader laws;
        private final long[] peopleNames = new long[MOST_PEOPLE];
        private final long[] birdNames = new long[MOST_BIRDS];
        private final int[] goes = new int[MOST_PEOPLE * HOURS];
        private int goCount;
        private int callCount;
        private boolean hearIsTold;
        private int cell;
        private int found;

        Reader(Tape tape, Land land) {
            this.tape = tape;
            this.land = land;
            laws = new LawReader(tape, land);
        }

        /** 0, or the fault of the text; the land is of use only behind 0. */
        int read() {
            land.clear();
            Arrays.fill(goes, NONE);
            goCount = 0;
            callCount = 0;
            hearIsTold = false;
            tape.rewind();
            if (!readHills()) {
                return tape.fault;
            }
            for (int i = 0; i < MOST_SIGNS && tape.token != Tape.END; i++) {
                if (!readLine()) {
                    return tape.fault;
                }
            }
            walkAll();
            return 0;
        }

        private boolean readHills() {
            if (!takeKeyword(Tape.HILLS) || !isNumber(Land.LEAST_SIDE, Land.MOST_SIDE)) {
                return false;
            }
            land.wide = tape.number;
            tape.step();
            if (!isNumber(Land.LEAST_SIDE, Land.MOST_SIDE)) {
                return false;
            }
            land.deep = tape.number;
            return tape.step() && takeEnd();
        }

        private boolean readLine() {
            switch (tape.keyword) {
                case Tape.PERSON:
                    return readPerson();
                case Tape.GO:
                    return readGo();
                case Tape.BIRD:
                    return readBird();
                case Tape.CALL:
                    return readCall();
                case Tape.OWE:
                    return readLaw(land.owe);
                case Tape.FOG:
                    return readLaw(land.fog);
                case Tape.HEAR:
                    return readHear();
                default:
                    return tape.fail(WRONG_TOKEN);
            }
        }

        private boolean readPerson() {
            int person = land.people;
            if (person >= MOST_PEOPLE) {
                return tape.fail(TOO_MANY);
            }
            tape.step();
            if (!isNewName()) {
                return false;
            }
            peopleNames[person] = tape.word;
            tape.step();
            if (tape.keyword < Tape.PLAIN || tape.keyword > Tape.SHY) {
                return tape.fail(WRONG_TOKEN);
            }
            land.kind[person] = tape.keyword - Tape.PLAIN + Land.PLAIN;
            tape.step();
            if (!takeKeyword(Tape.AT) || !takeCell()) {
                return false;
            }
            goes[person * HOURS] = cell;
            if (!takeKeyword(Tape.PURSE) || !isNumber(0, MOST_NUMBER)) {
                return false;
            }
            land.purse[person] = tape.number;
            land.people++;
            return tape.step() && takeEnd();
        }

        private boolean readGo() {
            if (goCount >= MOST_GOES) {
                return tape.fail(TOO_MANY);
            }
            goCount++;
            tape.step();
            if (!isKnown(peopleNames, land.people)) {
                return false;
            }
            int person = found;
            tape.step();
            if (!takeKeyword(Tape.HOUR) || !isNumber(1, LAST_HOUR)) {
                return false;
            }
            int at = person * HOURS + tape.number;
            if (goes[at] != NONE) {
                return tape.fail(TOLD_ALREADY);
            }
            tape.step();
            if (!takeKeyword(Tape.AT) || !takeCell()) {
                return false;
            }
            goes[at] = cell;
            return takeEnd();
        }

        private boolean readBird() {
            int bird = land.birds;
            if (bird >= MOST_BIRDS) {
                return tape.fail(TOO_MANY);
            }
            tape.step();
            if (!isNewName()) {
                return false;
            }
            birdNames[bird] = tape.word;
            tape.step();
            if (!takeKeyword(Tape.AT) || !takeCell()) {
                return false;
            }
            land.bush[bird] = cell;
            land.birds++;
            return takeEnd();
        }

        private boolean readCall() {
            if (callCount >= MOST_CALLS) {
                return tape.fail(TOO_MANY);
            }
            callCount++;
            tape.step();
            if (!isKnown(birdNames, land.birds)) {
                return false;
            }
            int bird = found;
            tape.step();
            if (!takeKeyword(Tape.HOUR) || !isNumber(0, LAST_HOUR)) {
                return false;
            }
            int at = bird * HOURS + tape.number;
            if (land.times[at] != 0) {
                return tape.fail(TOLD_ALREADY);
            }
            tape.step();
            if (!takeKeyword(Tape.TIMES) || !isNumber(1, MOST_TIMES)) {
                return false;
            }
            land.times[at] = tape.number;
            return tape.step() && takeEnd();
        }

        private boolean readLaw(Law law) {
            if (law.isTold) {
                return tape.fail(TOLD_ALREADY);
            }
            tape.step();
            law.isTold = true;
            law.from = land.codeLength;
            laws.owing = law == land.owe;
            if (!laws.readLevel(LawReader.JOINED, 0)) {
                return false;
            }
            law.to = land.codeLength;
            return takeEnd();
        }

        private boolean readHear() {
            if (hearIsTold) {
                return tape.fail(TOLD_ALREADY);
            }
            hearIsTold = true;
            tape.step();
            if (!isNumber(0, MOST_FAR)) {
                return false;
            }
            land.hear = tape.number;
            return tape.step() && takeEnd();
        }

        private boolean takeKeyword(int keyword) {
            return tape.keyword == keyword ? tape.step() : tape.fail(WRONG_TOKEN);
        }

        private boolean takeEnd() {
            return tape.token == ';' ? tape.step() : tape.fail(WRONG_TOKEN);
        }

        private boolean takeCell() {
            if (!isNumber(0, land.wide - 1)) {
                return false;
            }
            int x = tape.number;
            tape.step();
            if (!isNumber(0, land.deep - 1)) {
                return false;
            }
            cell = tape.number * ROW + x;
            return tape.step();
        }

        private boolean isNumber(int least, int most) {
            if (tape.token != Tape.NUMBER) {
                return tape.fail(WRONG_TOKEN);
            }
            return tape.number >= least && tape.number <= most || tape.fail(WRONG_NUMBER);
        }

        private boolean isNewName() {
            if (!tape.isName()) {
                return tape.fail(WRONG_TOKEN);
            }
            boolean known = indexOf(peopleNames, land.people) != NONE || indexOf(birdNames, land.birds) != NONE;
            return !known || tape.fail(TOLD_ALREADY);
        }

        private boolean isKnown(long[] names, int count) {
            if (!tape.isName()) {
                return tape.fail(WRONG_TOKEN);
            }
            found = indexOf(names, count);
            return found != NONE || tape.fail(UNKNOWN);
        }

        private int indexOf(long[] names, int count) {
            for (int i = 0; i < count && i < names.length; i++) {
                if (names[i] == tape.word) {
                    return i;
                }
            }
            return NONE;
        }

        /** Where nobody is told to go, one stays; the goes may be told in any order. */
        private void walkAll() {
            for (int person = 0; person < land.people; person++) {
                int here = 0;
                for (int hour = 0; hour < HOURS; hour++) {
                    int at = person * HOURS + hour;
                    if (goes[at] != NONE) {
                        here = goes[at];
                    }
                    land.place[at] = here;
                }
            }
        }
    }

    /** What can be changed by hand, and what a mark holds. */
    private static final class Deeds {
        final int[] times = new int[MOST_BIRDS * HOURS];
        int shot;
        final int[] debt = new int[MOST_PEOPLE];

        Deeds() {
            Arrays.fill(debt, NONE);
        }

        void begin(Land land) {
            System.arraycopy(land.times, 0, times, 0, MOST_BIRDS * HOURS);
            shot = 0;
            Arrays.fill(debt, NONE);
        }

        void copyFrom(Deeds other) {
            System.arraycopy(other.times, 0, times, 0, MOST_BIRDS * HOURS);
            shot = other.shot;
            System.arraycopy(other.debt, 0, debt, 0, MOST_PEOPLE);
        }

        boolean isShot(int bird) {
            return (shot >> bird & 1) != 0;
        }

        int timesOfDay(int bird) {
            int sum = 0;
            for (int hour = 0; hour < HOURS; hour++) {
                sum += times[bird * HOURS + hour];
            }
            return sum;
        }

        int callCount() {
            int sum = 0;
            for (int i = 0; i < times.length; i++) {
                sum += times[i] != 0 ? 1 : 0;
            }
            return sum;
        }

        int debtCount() {
            int sum = 0;
            for (int i = 0; i < MOST_PEOPLE; i++) {
                sum += debt[i] != NONE ? 1 : 0;
            }
            return sum;
        }
    }

    /** The last things done by hand, the oldest first. */
    private static final class History {
        static final int MOST = 20;

        int size;
        private final int[] birds = new int[MOST];
        // NONE: the bird was shot, or not shot any more.
        private final int[] hours = new int[MOST];
        private final int[] before = new int[MOST];

        void remember(int bird, int hour, int times) {
            if (size >= MOST) {
                dropOldest();
            }
            birds[size] = bird;
            hours[size] = hour;
            before[size] = times;
            size++;
        }

        boolean takeBack(Deeds deeds) {
            if (size <= 0) {
                return false;
            }
            size--;
            if (hours[size] == NONE) {
                deeds.shot ^= 1 << birds[size];
            } else {
                deeds.times[birds[size] * HOURS + hours[size]] = before[size];
            }
            return true;
        }

        private void dropOldest() {
            size = MOST - 1;
            System.arraycopy(birds, 1, birds, 0, size);
            System.arraycopy(hours, 1, hours, 0, size);
            System.arraycopy(before, 1, before, 0, size);
        }
    }

    /** Who owes whom, wherever the people are put. */
    private static final class Debts {
        static final int MOST_RATE = 99;
        static final int SHY_GAP = 3;
        static final int FARS = 15;
        static final int RATES = 512;

        private final Land land;
        private final Deeds deeds;
        final int[] at = new int[MOST_PEOPLE * HOURS];
        // What each owes to each, as the last tally found it.
        final int[] sums = new int[MOST_PEOPLE * MOST_PEOPLE];
        // Of the hour that was looked round in last.
        private final int[] nearest = new int[MOST_PEOPLE];
        private final int[] gap = new int[MOST_PEOPLE];
        // The laws are asked the same things again and again, and may be long: answers are kept.
        private final int[] reach = new int[HOURS * CELLS];
        private final int[] rateKey = new int[RATES];
        private final int[] rate = new int[RATES];

        Debts(Land land, Deeds deeds) {
            this.land = land;
            this.deeds = deeds;
        }

        /** Of other hills the laws answer otherwise. At first nobody is there to ask them. */
        void forget() {
            Arrays.fill(reach, NONE);
            Arrays.fill(rateKey, NONE);
        }

        void allAsTold() {
            System.arraycopy(land.place, 0, at, 0, MOST_PEOPLE * HOURS);
        }

        void put(int set, int from, int to, int cell) {
            for (int person = 0; person < land.people; person++) {
                for (int hour = from; hour <= to && (set >> person & 1) != 0; hour++) {
                    at[person * HOURS + hour] = cell;
                }
            }
        }

        int heard(int bird, int hour, int silent) {
            return (silent >> bird & 1) != 0 ? 0 : deeds.times[bird * HOURS + hour];
        }

        /** Finds whom each would owe in an hour; what is asked next is of that hour. */
        void lookRound(int hour) {
            for (int person = 0; person < land.people; person++) {
                int here = at[person * HOURS + hour];
                int slot = hour * CELLS + here;
                if (reach[slot] == NONE) {
                    reach[slot] = within(land.fog.value(hour, here % ROW, here / ROW, 0), MOST_FAR);
                }
                nearest[person] = NONE;
                gap[person] = reach[slot] + 1;
            }
            // Each one meets the others by number here, so that of equal ones the least stays.
            for (int person = 0; person < land.people; person++) {
                for (int other = person + 1; other < land.people; other++) {
                    int away = far(at[person * HOURS + hour], at[other * HOURS + hour]);
                    meet(person, other, away);
                    meet(other, person, away);
                }
            }
        }

        private void meet(int person, int other, int away) {
            if (away < gap[person]) {
                nearest[person] = other;
                gap[person] = away;
            }
        }

        int creditor(int bird, int hour, int person) {
            int away = far(at[person * HOURS + hour], land.bush[bird]);
            return hears(person, away) ? nearest[person] : NONE;
        }

        private boolean hears(int person, int away) {
            return away <= land.hear && land.kind[person] != Land.DEAF;
        }

        int pence(int bird, int hour, int person, int times) {
            int away = far(at[person * HOURS + hour], land.bush[bird]);
            if (times <= 0 || nearest[person] == NONE || !hears(person, away)) {
                return 0;
            }
            int near = gap[person];
            int key = ((hour * (MOST_TIMES + 1) + times) * FARS + away) * FARS + near;
            int slot = key % RATES;
            if (rateKey[slot] != key) {
                rateKey[slot] = key;
                rate[slot] = within(land.owe.value(hour, away, near, times), MOST_RATE);
            }
            int whole = rate[slot] * times;
            switch (land.kind[person]) {
                case Land.CHILD:
                    return whole / 2;
                case Land.RICH:
                    return whole * 2;
                case Land.SHY:
                    return near >= SHY_GAP ? 0 : whole;
                default:
                    return whole;
            }
        }

        /** What a set of people is owed less what it owes, in some hours, but for silent birds. */
        int gainOf(int set, int from, int to, int silent) {
            int sum = 0;
            for (int hour = from; hour <= to; hour++) {
                if (!isCalled(hour, silent)) {
                    continue;
                }
                lookRound(hour);
                for (int bird = 0; bird < land.birds; bird++) {
                    int times = heard(bird, hour, silent);
                    for (int person = 0; person < land.people && times > 0; person++) {
                        int share = shareOf(set, person);
                        sum += share == 0 ? 0 : share * pence(bird, hour, person, times);
                    }
                }
            }
            return sum;
        }

        /** 1 if a set gains by what a person owes, -1 if it loses by it; within it nothing is lost. */
        private int shareOf(int set, int person) {
            int to = nearest[person];
            return to == NONE ? 0 : (set >> to & 1) - (set >> person & 1);
        }

        /** What a person owes in the day by one bird. */
        int penceOfDay(int bird, int person) {
            int sum = 0;
            for (int hour = 0; hour < HOURS; hour++) {
                int times = deeds.times[bird * HOURS + hour];
                if (times > 0) {
                    lookRound(hour);
                    sum += pence(bird, hour, person, times);
                }
            }
            return sum;
        }

        void tally(int silent) {
            Arrays.fill(sums, 0);
            for (int hour = 0; hour < HOURS; hour++) {
                if (isCalled(hour, silent)) {
                    lookRound(hour);
                    for (int bird = 0; bird < land.birds; bird++) {
                        addEntries(bird, hour, heard(bird, hour, silent));
                    }
                }
            }
        }

        private void addEntries(int bird, int hour, int times) {
            for (int person = 0; person < land.people; person++) {
                int to = nearest[person];
                if (to != NONE) {
                    sums[person * MOST_PEOPLE + to] += pence(bird, hour, person, times);
                }
            }
        }

        private boolean isCalled(int hour, int silent) {
            for (int bird = 0; bird < land.birds; bird++) {
                if (heard(bird, hour, silent) > 0) {
                    return true;
                }
            }
            return false;
        }

        private static int within(int value, int most) {
            return Math.max(0, Math.min(value, most));
        }

        private static int far(int a, int b) {
            int x = a % ROW - b % ROW;
            int y = a / ROW - b / ROW;
            return (x < 0 ? -x : x) + (y < 0 ? -y : y);
        }
    }

    /** Where it is best to be: alone, with all others at play, or in company. */
    private static final class Game {
        static final int MOST_ROUNDS = 50;
        static final int CODE_BITS = 7;

        private final Land land;
        private final Deeds deeds;
        private final Debts debts;
        // NONE as long as nothing has been tried.
        int bestCell;
        int bestBalance;
        int bestSet;
        int rounds;
        boolean rest;
        private final int[] path = new int[HOURS];
        private final long[] seen = new long[MOST_ROUNDS + 1];

        Game(Land land, Deeds deeds, Debts debts) {
            this.land = land;
            this.deeds = deeds;
            this.debts = debts;
        }

        void standOf(int person, int from, int to) {
            debts.allAsTold();
            int set = 1 << person;
            int outside = gainOutside(set, from, to);
            bestCell = NONE;
            tryCells(set, from, to, outside);
        }

        void picnicOf(int many, int from, int to) {
            bestCell = NONE;
            for (int set = 0; set < 1 << land.people; set++) {
                if (Integer.bitCount(set) == many) {
                    debts.allAsTold();
                    tryCells(set, from, to, gainOutside(set, from, to));
                }
            }
        }

        void play(int from, int to) {
            debts.allAsTold();
            seen[0] = standing(from, to);
            rest = false;
            for (rounds = 1; rounds <= MOST_ROUNDS; rounds++) {
                if (!playRound(from, to)) {
                    rest = true;
                    return;
                }
                seen[rounds] = standing(from, to);
                if (wasSeen(rounds)) {
                    return;
                }
            }
            rounds = MOST_ROUNDS;
        }

        /** Whether anybody went elsewhere. */
        private boolean playRound(int from, int to) {
            boolean moved = false;
            for (int person = 0; person < land.people; person++) {
                int set = 1 << person;
                int now = debts.gainOf(set, from, to, deeds.shot);
                System.arraycopy(debts.at, person * HOURS, path, 0, HOURS);
                bestCell = NONE;
                tryCells(set, from, to, 0);
                if (bestBalance > now) {
                    debts.put(set, from, to, bestCell);
                    moved = true;
                } else {
                    System.arraycopy(path, 0, debts.at, person * HOURS, HOURS);
                }
            }
            return moved;
        }

        private int gainOutside(int set, int from, int to) {
            return debts.gainOf(set, 0, from - 1, deeds.shot) + debts.gainOf(set, to + 1, LAST_HOUR, deeds.shot);
        }

        /** Leaves the people of the set at the last cell. */
        private void tryCells(int set, int from, int to, int outside) {
            for (int y = 0; y < land.deep; y++) {
                for (int x = 0; x < land.wide; x++) {
                    int cell = y * ROW + x;
                    debts.put(set, from, to, cell);
                    int gain = outside + debts.gainOf(set, from, to, deeds.shot);
                    if (bestCell == NONE || gain > bestBalance) {
                        bestCell = cell;
                        bestBalance = gain;
                        bestSet = set;
                    }
                }
            }
        }

        /**
         * Where all are in these hours, in one number. One who moves about in them has not
         * stood anywhere yet, so one code for that is enough.
         */
        private long standing(int from, int to) {
            long all = 0;
            for (int person = 0; person < land.people; person++) {
                int code = debts.at[person * HOURS + from];
                for (int hour = from + 1; hour <= to; hour++) {
                    if (debts.at[person * HOURS + hour] != debts.at[person * HOURS + from]) {
                        code = CELLS;
                    }
                }
                all = (all << CODE_BITS) + code;
            }
            return all;
        }

        private boolean wasSeen(int round) {
            for (int i = 0; i < round; i++) {
                if (seen[i] == seen[round]) {
                    return true;
                }
            }
            return false;
        }
    }

    /** What birds may have sung, by what people say that they owe. */
    private static final class Songs {
        static final int MOST_SUNG = 5;

        private final Land land;
        private final Deeds deeds;
        private final Debts debts;
        int found;
        int leastSet;
        final int[] row = new int[MOST_BIRDS];
        private int wanted;
        private final int[] price = new int[MOST_BIRDS * (MOST_SUNG + 1) * MOST_PEOPLE];
        // What each of whom it is told must still come to owe.
        private final int[] left = new int[MOST_PEOPLE];

        Songs(Land land, Deeds deeds, Debts debts) {
            this.land = land;
            this.deeds = deeds;
            this.debts = debts;
        }

        int countRows(int hour) {
            // No row is the one before the first: all are gone through.
            findRow(hour, NONE);
            return found;
        }

        /** Whether there is such a row: it stays in row then. */
        boolean findRow(int hour, int i) {
            findPrices(hour);
            System.arraycopy(deeds.debt, 0, left, 0, MOST_PEOPLE);
            found = 0;
            wanted = i;
            return singFrom(0);
        }

        void findWooden() {
            debts.allAsTold();
            for (int bird = 0; bird < land.birds; bird++) {
                for (int person = 0; person < land.people; person++) {
                    price[priceAt(bird, 0, person)] = debts.penceOfDay(bird, person);
                }
            }
            found = 0;
            leastSet = NONE;
            for (int set = 0; set < 1 << land.birds; set++) {
                if ((set & deeds.shot) == 0 && isRightWithout(set | deeds.shot)) {
                    leastSet = found == 0 ? set : leastSet;
                    found++;
                }
            }
        }

        private boolean isRightWithout(int silent) {
            for (int person = 0; person < land.people; person++) {
                int owes = 0;
                for (int bird = 0; bird < land.birds; bird++) {
                    owes += (silent >> bird & 1) != 0 ? 0 : price[priceAt(bird, 0, person)];
                }
                if (deeds.debt[person] != NONE && deeds.debt[person] != owes) {
                    return false;
                }
            }
            return true;
        }

        private void findPrices(int hour) {
            debts.allAsTold();
            debts.lookRound(hour);
            for (int bird = 0; bird < land.birds; bird++) {
                for (int times = 0; times <= MOST_SUNG; times++) {
                    for (int person = 0; person < land.people; person++) {
                        price[priceAt(bird, times, person)] = debts.pence(bird, hour, person, times);
                    }
                }
            }
        }

        private static int priceAt(int bird, int times, int person) {
            return (bird * (MOST_SUNG + 1) + times) * MOST_PEOPLE + person;
        }

        /** Lets this bird and those behind it sing; whether the wanted row came up. */
        private boolean singFrom(int bird) {
            if (bird >= land.birds) {
                boolean right = isAllPaid();
                found += right ? 1 : 0;
                return right && found - 1 == wanted;
            }
            int most = deeds.isShot(bird) ? 0 : MOST_SUNG;
            for (int times = 0; times <= most; times++) {
                row[bird] = times;
                boolean fits = pay(bird, times);
                if (fits && singFrom(bird + 1)) {
                    return true;
                }
                takeBack(bird, times);
            }
            return false;
        }

        /** False if anybody owes too much by now: no bird behind this one makes it less. */
        private boolean pay(int bird, int times) {
            boolean fits = true;
            for (int person = 0; person < land.people; person++) {
                if (deeds.debt[person] != NONE) {
                    left[person] -= price[priceAt(bird, times, person)];
                    fits = fits && left[person] >= 0;
                }
            }
            return fits;
        }

        private void takeBack(int bird, int times) {
            for (int person = 0; person < land.people; person++) {
                if (deeds.debt[person] != NONE) {
                    left[person] += price[priceAt(bird, times, person)];
                }
            }
        }

        private boolean isAllPaid() {
            for (int person = 0; person < land.people; person++) {
                if (deeds.debt[person] != NONE && left[person] != 0) {
                    return false;
                }
            }
            return true;
        }
    }

    /** The day on which all is collected. */
    private static final class June {
        // Each round but the last pays a penny at least, and fewer than this can be owed.
        static final int MOST_ROUNDS = 1000000;

        private final Land land;
        private final Deeds deeds;
        private final Debts debts;
        final int[] purse = new int[MOST_PEOPLE];
        private final int[] due = new int[MOST_PEOPLE * MOST_PEOPLE];

        June(Land land, Deeds deeds, Debts debts) {
            this.land = land;
            this.deeds = deeds;
            this.debts = debts;
        }

        void collect() {
            debts.allAsTold();
            debts.tally(deeds.shot);
            for (int person = 0; person < land.people; person++) {
                purse[person] = land.purse[person];
                for (int other = 0; other < land.people; other++) {
                    int owes = debts.sums[person * MOST_PEOPLE + other];
                    due[person * MOST_PEOPLE + other] = Math.max(0, owes - debts.sums[other * MOST_PEOPLE + person]);
                }
            }
            boolean paid = true;
            for (int round = 0; round < MOST_ROUNDS && paid; round++) {
                paid = payRound();
            }
        }

        int ruined() {
            int set = 0;
            for (int person = 0; person < land.people; person++) {
                for (int other = 0; other < land.people; other++) {
                    set |= due[person * MOST_PEOPLE + other] > 0 ? 1 << person : 0;
                }
            }
            return set;
        }

        private boolean payRound() {
            boolean paid = false;
            for (int person = 0; person < land.people; person++) {
                for (int other = 0; other < land.people; other++) {
                    int pence = Math.min(purse[person], due[person * MOST_PEOPLE + other]);
                    if (pence > 0) {
                        purse[person] -= pence;
                        purse[other] += pence;
                        due[person * MOST_PEOPLE + other] -= pence;
                        paid = true;
                    }
                }
            }
            return paid;
        }
    }
}
