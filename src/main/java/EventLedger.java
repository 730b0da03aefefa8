import java.util.NoSuchElementException;

/**
 * A ledger of events with rebuilt states. The words in capitals, and the promises that the comments
 * name by number, are those of the document (DOC.md).
 */
public final class EventLedger {
    public static final int NONE = -1;

    private static final int NO = Integer.MIN_VALUE;
    private static final int ABSENT = -2;
    private static final int FULL = -3;

    private static final int MOST_BYTES = 900;
    private static final int MOST_ACCOUNTS = 8;
    private static final int MOST_TALLIES = 4;
    private static final int MOST_EVENTS = 120;
    private static final int MOST_TOLD_EVENTS = 50;
    private static final int MOST_STEPS = 4;
    private static final int MOST_UNDONE = 20;
    private static final int MOST_BY_CHANCE = 60;
    private static final int MOST_SEEN = 120;
    private static final int MOST_NUMBER = 99999;
    private static final int MOST_LIFTED = 1000000;
    private static final int LATEST_TIME = 9999;
    private static final int MOST_EVERY = 999;
    private static final int MOST_KEEP = 6;
    private static final int FIELDS = 3;
    private static final int SHAPES = 3;

    private static final int OPEN = 0;
    private static final int PUT = 1;
    private static final int TAKE = 2;
    private static final int LOCK = 3;
    private static final int FREE = 4;
    private static final int CLOSE = 5;
    private static final int MOVE = 6;
    private static final int VOID = 7;
    private static final int KINDS = 7;

    private static final int SET = 0;
    private static final int MUL = 1;
    private static final int ADD = 2;
    private static final int COPY = 3;

    private static final Word[] WORDS = Word.values();

    private final byte[] tape = new byte[MOST_BYTES];
    private int tapeSize;
    private final Parser parser = new Parser();
    private Terms terms = new Terms();
    private Terms spareTerms = new Terms();
    private Log log = new Log();
    private Log spareLog = new Log();
    private final State now = new State();
    private final State guess = new State();
    private final Shots shots = new Shots();
    private final Shots spareShots = new Shots();
    private final Tallies tallies = new Tallies();
    private final int[] row = new int[FIELDS];
    private final Mark[] marks = new Mark[MOST_UNDONE];
    private int undoable;
    private final Log imageLog = new Log();
    private final Mark image = new Mark();
    private boolean imaged;

    /** Promise 1. */
    public EventLedger() {
        for (int i = 0; i < MOST_UNDONE; i++) {
            marks[i] = new Mark();
        }
        shots.every = terms.every;
        shots.most = terms.most;
    }

    /** Promise 2. */
    public int feed(int a, int b, int c, int d, int e) {
        if (tapeSize + 20 > MOST_BYTES) {
            return NONE;
        }
        putBytes(a);
        putBytes(b);
        putBytes(c);
        putBytes(d);
        putBytes(e);
        return tapeSize;
    }

    /** Promise 3. */
    public int text(int n) {
        if (n < 0 || n > tapeSize) {
            return ABSENT;
        }
        tapeSize = 0;
        int lines = parser.parse(tape, n, spareTerms, spareLog);
        if (lines == NONE) {
            return NONE;
        }
        takeOverSpares();
        shots.every = terms.every;
        shots.most = terms.most;
        tallies.clear();
        undoable = 0;
        imaged = false;
        rebuild();
        return lines;
    }

    /** Promise 4. */
    public int fault(int what) {
        if (what == 0) {
            return parser.fault;
        }
        return what == 1 ? parser.place : NONE;
    }

    /** Promise 5. */
    public int named(int kind, int letters) {
        if (kind == 0) {
            return terms.accountNamed(letters);
        }
        return kind == 1 ? terms.tallyNamed(letters) : NONE;
    }

    /** Promise 6. */
    public int event(int kind, int account, int other, int time, int one, int two) {
        if (!canBe(kind, account, other) || !isTime(time) || !isNumber(one) || !isNumber(two)) {
            return NONE;
        }
        fillRow(one, two);
        return comes(kind, account, other, time, SHAPES);
    }

    /** Promise 7. */
    public int old(int kind, int account, int other, int time, int one) {
        if (!canBe(kind, account, other) || !isTime(time) || !isNumber(one)) {
            return NONE;
        }
        fillRow(one, 0);
        return comes(kind, account, other, time, 1);
    }

    /** Promise 8. */
    public int revoke(int event, int time) {
        if (!log.holdsPlain(event) || log.voidedBy[event] != NONE || !isTime(time)) {
            return NONE;
        }
        int refusal = refusalAt(time);
        if (refusal != 0) {
            return refusal;
        }
        mark();
        log.addVoid(event, time);
        rebuild();
        return log.size - 1;
    }

    /** Promise 9. */
    public int of(int event, int what) throws IndexOutOfBoundsException, NoSuchElementException {
        if (!log.holds(event)) {
            throw new IndexOutOfBoundsException("no such EVENT");
        }
        switch (what) {
            case 0:
                return log.kind[event];
            case 1:
                return log.kind[event] == VOID ? ABSENT : log.account[event];
            case 2:
                return log.kind[event] == VOID || log.kind[event] == MOVE ? log.other[event] : ABSENT;
            case 3:
                return log.time[event];
            case 4:
                return log.shape[event];
            case 5:
                return now.cause[event];
            case 6:
                return log.voidedBy[event] != NONE ? 1 : 0;
            case 7:
                return log.weights(event, event + 1);
            default:
                throw new NoSuchElementException("no such what");
        }
    }

    /** Promise 10. */
    public int field(int event, int field, boolean lifted) {
        if (!log.holdsPlain(event) || field < 1 || field > FIELDS) {
            return NONE;
        }
        int index = FIELDS * event + field - 1;
        return lifted ? log.lifted[index] : log.told[index];
    }

    /** Promise 11. */
    public int account(int account, int what) {
        return isAccount(account) ? now.look(account, what) : NO;
    }

    /** Promise 12. */
    public int at(int time, int account, int what) {
        if (!isTime(time) || !isAccount(account)) {
            return NO;
        }
        guess.replay(log, log.placeAt(time), log.size, NONE);
        return guess.look(account, what);
    }

    /** Promise 13. */
    public int known(int time, int account, int what) {
        if (!isTime(time) || !isAccount(account)) {
            return NO;
        }
        int place = log.placeAt(time);
        guess.replay(log, place, place, NONE);
        return guess.look(account, what);
    }

    /** Promise 14. */
    public int cost(int place) {
        return place >= 0 && place <= log.size ? costOf(place) : NONE;
    }

    /** Promise 15. */
    public int costAt(int time) {
        return isTime(time) ? costOf(log.placeAt(time)) : NONE;
    }

    /** Promise 16. */
    public int snapshot(int k) {
        if (k < 0) {
            return NONE;
        }
        return k < shots.size ? shots.place[k] : ABSENT;
    }

    /** Promise 17. */
    public int inSnapshot(int k, int account, int what) {
        if (k < 0 || k >= shots.size || !isAccount(account)) {
            return NO;
        }
        guess.replay(log, shots.place[k], log.size, NONE);
        return guess.look(account, what);
    }

    /** Promise 18. */
    public int bestPlace(int what) {
        if (what < 0 || what > 1) {
            return NONE;
        }
        int all = 0;
        int best = 0;
        int mostSaved = 0;
        for (int place = 0; place <= log.size; place++) {
            int cost = costOf(place);
            all += cost;
            // One more there serves the PLACES from it up to the next SNAPSHOT, each by the same.
            int saved = cost * (shots.nextBehind(place, log.size + 1) - place);
            if (saved > mostSaved) {
                mostSaved = saved;
                best = place;
            }
        }
        return what == 0 ? best : all - mostSaved;
    }

    /** Promise 19. */
    public int aside(int k) {
        if (k < 0) {
            return NONE;
        }
        int ahead = 0;
        for (int event = 0; event < log.size; event++) {
            if (now.cause[event] != 0) {
                if (ahead == k) {
                    return event;
                }
                ahead++;
            }
        }
        return ABSENT;
    }

    /** Promise 20. */
    public int blame(int event) {
        if (!log.holds(event) || now.cause[event] == 0) {
            return NONE;
        }
        // What comes behind an EVENT is never to blame for it.
        for (int other = 0; other < event; other++) {
            if (log.holdsPlain(other) && log.voidedBy[other] == NONE) {
                guess.replay(log, event + 1, log.size, other);
                if (guess.cause[event] == 0) {
                    return other;
                }
            }
        }
        return ABSENT;
    }

    /** Promise 21. */
    public int without(int event, int account) {
        if (!log.holdsPlain(event) || !isAccount(account)) {
            return NO;
        }
        guess.replay(log, log.size, log.size, event);
        return guess.balance[account];
    }

    /** Promise 22. */
    public int firstBelow(int account) {
        if (!isAccount(account)) {
            return NONE;
        }
        guess.begin(log.size, NONE);
        for (int event = 0; event < log.size; event++) {
            guess.step(log, event);
            if (guess.balance[account] < 0) {
                return event;
            }
        }
        return ABSENT;
    }

    /** Promise 23. */
    public int peak(int account, int what) {
        if (!isAccount(account) || what < 0 || what > 1) {
            return NO;
        }
        int most = 0;
        int first = ABSENT;
        guess.begin(log.size, NONE);
        for (int event = 0; event < log.size; event++) {
            guess.step(log, event);
            if (guess.balance[account] > most) {
                most = guess.balance[account];
                first = event;
            }
        }
        return what == 0 ? most : first;
    }

    /** Promise 24. */
    public int touches(int event) {
        if (!log.holdsPlain(event)) {
            return NONE;
        }
        guess.replay(log, log.size, log.size, event);
        int touched = 0;
        for (int other = 0; other < log.size; other++) {
            if (other != event && guess.cause[other] != now.cause[other]) {
                touched++;
            }
        }
        return touched;
    }

    /** Promise 25. */
    public int ifPlain(int kind, int shape) {
        if (kind < 0 || kind >= KINDS || shape < 1 || shape >= SHAPES) {
            return NONE;
        }
        spareLog.copyFrom(log);
        for (int event = 0; event < spareLog.size; event++) {
            terms.lift(spareLog, event, kind, shape);
        }
        guess.replay(spareLog, spareLog.size, spareLog.size, NONE);
        return guess.countAside(0, spareLog.size);
    }

    /** Promise 26. */
    public int resnap(int every, int keep) {
        if (every < 1 || every > MOST_EVERY || keep < 0 || keep > MOST_KEEP) {
            return NONE;
        }
        mark();
        shots.every = every;
        shots.most = keep;
        rebuild();
        return shots.size;
    }

    /** Promise 27. */
    public int see(int tally, int n) {
        if (!isTally(tally) || n < 1 || n > MOST_SEEN) {
            return NONE;
        }
        int left = log.size - tallies.place[tally];
        if (left <= 0) {
            return ABSENT;
        }
        mark();
        int seen = Math.min(n, left);
        for (int i = 0; i < seen; i++) {
            seeNext(tally);
        }
        return seen;
    }

    /** Promise 28. */
    public int rewind(int tally) {
        if (!isTally(tally)) {
            return NONE;
        }
        mark();
        int place = tallies.place[tally];
        tallies.restart(tally);
        return place;
    }

    /** Promise 29. */
    public int tally(int tally, int what) {
        if (!isTally(tally)) {
            return NO;
        }
        switch (what) {
            case 0:
                return tallies.place[tally];
            case 1:
                return log.size - tallies.place[tally];
            case 2:
                return tallies.countCounted(tally);
            case 3:
                return terms.tallyKind[tally];
            case 4:
                return terms.tallyField[tally];
            case 5:
                return sumCounted(tally, NONE);
            case 6:
                return sumAnew(tally) - sumCounted(tally, NONE);
            default:
                return NO;
        }
    }

    /** Promise 30. */
    public int sum(int tally, int account) {
        return isTally(tally) && isAccount(account) ? sumCounted(tally, account) : NO;
    }

    /** Promise 31. */
    public int chance(int seed, int n, int what) {
        int refusal = what == 1 ? NO : NONE;
        if (seed < -1 || n < 1 || n > MOST_BY_CHANCE || what < 0 || what > 2) {
            return refusal;
        }
        if (terms.accounts == 0 || log.size + n > MOST_EVENTS) {
            return refusal;
        }
        spareLog.copyFrom(log);
        addByChance(seed == -1 ? terms.seed : seed, n);
        if (what == 2) {
            spareShots.every = shots.every;
            spareShots.most = shots.most;
            return spareShots.retake(spareLog, log.size);
        }
        guess.replay(spareLog, spareLog.size, spareLog.size, NONE);
        return what == 0 ? guess.countAside(log.size, spareLog.size) : guess.sumBalances();
    }

    /** Promise 32. */
    public int undo() {
        if (undoable <= 0) {
            return NONE;
        }
        undoable--;
        Mark latest = marks[undoable];
        log.cutTo(latest.events);
        restore(latest);
        return undoable;
    }

    /** Promise 33. */
    public int keep() {
        imageLog.copyFrom(log);
        fillMark(image);
        imaged = true;
        return log.size;
    }

    /** Promise 34. */
    public int back() {
        if (!imaged) {
            return NONE;
        }
        log.copyFrom(imageLog);
        restore(image);
        undoable = 0;
        return log.size;
    }

    /** Promise 35. */
    public int count(int what) {
        switch (what) {
            case 0:
                return terms.accounts;
            case 1:
                return log.size;
            case 2:
                return terms.tallies;
            case 3:
                return shots.size;
            case 4:
                return now.countAside(0, log.size);
            case 5:
                return log.countVoided();
            case 6:
                return log.latestTime();
            case 7:
                return now.countOpen();
            case 8:
                return log.weights(0, log.size);
            case 9:
                return undoable;
            case 10:
                return tapeSize;
            case 11:
                return shots.every;
            case 12:
                return shots.most;
            default:
                return NONE;
        }
    }

    private void putBytes(int four) {
        for (int shift = 24; shift >= 0 && tapeSize < MOST_BYTES; shift -= 8) {
            tape[tapeSize] = (byte) (four >>> shift);
            tapeSize++;
        }
    }

    private void takeOverSpares() {
        Terms parsedTerms = spareTerms;
        spareTerms = terms;
        terms = parsedTerms;
        Log parsedLog = spareLog;
        spareLog = log;
        log = parsedLog;
        for (int event = 0; event < log.size; event++) {
            terms.lift(log, event, NONE, NONE);
        }
    }

    private boolean isAccount(int account) {
        return account >= 0 && account < terms.accounts;
    }

    private boolean isTally(int tally) {
        return tally >= 0 && tally < terms.tallies;
    }

    private static boolean isTime(int time) {
        return time >= 0 && time <= LATEST_TIME;
    }

    private static boolean isNumber(int number) {
        return number >= 0 && number <= MOST_NUMBER;
    }

    /** Whether an EVENT by call can be of a KIND, an ACCOUNT and, for a move, the other one. */
    private boolean canBe(int kind, int account, int other) {
        if (kind < 0 || kind >= KINDS || !isAccount(account)) {
            return false;
        }
        return kind != MOVE || isAccount(other) && other != account;
    }

    private void fillRow(int one, int two) {
        row[0] = one;
        row[1] = two;
        row[2] = 0;
    }

    /** Why no EVENT of a TIME can come, 0 if one can. */
    private int refusalAt(int time) {
        if (time < log.latestTime()) {
            return ABSENT;
        }
        return log.size >= MOST_EVENTS ? FULL : 0;
    }

    /** An EVENT with the FIELDS of the row comes by call: its number, or why it is refused. */
    private int comes(int kind, int account, int other, int time, int shape) {
        int refusal = refusalAt(time);
        if (refusal != 0) {
            return refusal;
        }
        mark();
        int event = log.size;
        log.add(kind, account, other, time, shape, row);
        terms.lift(log, event, NONE, NONE);
        rebuild();
        return event;
    }

    /**
     * STATE and SNAPSHOTS follow from EVENTS, EVERY and KEEP alone: a VOID lets go each SNAPSHOT
     * that its EVENT lies ahead of, and resnap() asks for them as if told from the first one on.
     */
    private void rebuild() {
        shots.retake(log, 0);
        now.replay(log, log.size, log.size, NONE);
    }

    private int costOf(int place) {
        return log.weights(shots.latestUpTo(place), place);
    }

    private void seeNext(int tally) {
        int event = tallies.place[tally];
        if (!log.holds(event)) {
            return;
        }
        if (log.kind[event] == VOID) {
            tallies.takeOff(tally, log.other[event]);
        } else if (countsNow(tally, event)) {
            tallies.putOn(tally, event);
        }
        tallies.place[tally] = event + 1;
    }

    private boolean countsNow(int tally, int event) {
        return log.kind[event] == terms.tallyKind[tally] && now.cause[event] == 0
                && log.voidedBy[event] == NONE;
    }

    private int countedField(int tally, int event) {
        return log.lifted[FIELDS * event + terms.tallyField[tally] - 1];
    }

    /** What a TALLY counts for an ACCOUNT, for all of them with NONE. */
    private int sumCounted(int tally, int account) {
        int sum = 0;
        for (int event = 0; event < log.size; event++) {
            if (tallies.isCounted(tally, event) && (account == NONE || log.account[event] == account)) {
                sum += countedField(tally, event);
            }
        }
        return sum;
    }

    private int sumAnew(int tally) {
        int sum = 0;
        for (int event = 0; event < log.size; event++) {
            if (countsNow(tally, event)) {
                sum += countedField(tally, event);
            }
        }
        return sum;
    }

    private void addByChance(int seed, int n) {
        int time = Math.max(0, log.latestTime());
        int number = seed;
        for (int i = 0; i < n; i++) {
            number = nextNumber(number);
            int kind = drawn(number, 5);
            number = nextNumber(number);
            int account = drawn(number, terms.accounts);
            number = nextNumber(number);
            fillRow(drawn(number, 1000), 0);
            int event = spareLog.size;
            spareLog.add(kind, account, NONE, time, SHAPES, row);
            terms.lift(spareLog, event, NONE, NONE);
        }
    }

    private static int nextNumber(int last) {
        return (last * 1103515245 + 12345) & Integer.MAX_VALUE;
    }

    private static int drawn(int number, int below) {
        return below > 0 ? (number >> 16) % below : 0;
    }

    /** How all is now can be come back to by undo(); of too many the oldest is forgotten. */
    private void mark() {
        if (undoable >= MOST_UNDONE) {
            Mark oldest = marks[0];
            for (int i = 1; i < MOST_UNDONE; i++) {
                marks[i - 1] = marks[i];
            }
            marks[MOST_UNDONE - 1] = oldest;
            undoable = MOST_UNDONE - 1;
        }
        fillMark(marks[undoable]);
        undoable++;
    }

    private void fillMark(Mark mark) {
        mark.events = log.size;
        mark.every = shots.every;
        mark.most = shots.most;
        mark.tallies.copyFrom(tallies);
    }

    private void restore(Mark mark) {
        shots.every = mark.every;
        shots.most = mark.most;
        tallies.copyFrom(mark.tallies);
        rebuild();
    }

    /**
     * The words of the language, their letters packed by 5 bits each, with the numbers of the KIND
     * and the OP that they name, or NONE.
     */
    private enum Word {
        ACCOUNT("account", NONE, NONE),
        LIFT("lift", NONE, NONE),
        TALLY("tally", NONE, NONE),
        SNAP("snap", NONE, NONE),
        SEED("seed", NONE, NONE),
        VOID("void", NONE, NONE),
        OPEN("open", EventLedger.OPEN, NONE),
        PUT("put", EventLedger.PUT, NONE),
        TAKE("take", EventLedger.TAKE, NONE),
        LOCK("lock", EventLedger.LOCK, NONE),
        FREE("free", EventLedger.FREE, NONE),
        CLOSE("close", EventLedger.CLOSE, NONE),
        MOVE("move", EventLedger.MOVE, NONE),
        SET("set", NONE, EventLedger.SET),
        MUL("mul", NONE, EventLedger.MUL),
        ADD("add", NONE, EventLedger.ADD),
        COPY("copy", NONE, EventLedger.COPY);

        private static final int MOST_LETTERS = 7;

        private final long code;
        private final int kind;
        private final int op;

        Word(String letters, int kind, int op) {
            long packed = 0;
            for (int i = 0; i < letters.length(); i++) {
                packed = packed << 5 | letters.charAt(i) - 'a' + 1;
            }
            this.code = packed;
            this.kind = kind;
            this.op = op;
        }
    }

    /** Cuts a TEXT into TOKENS; of the one that it stands at it holds what and where that is. */
    private static final class Tokens {
        private static final int END = 0;
        private static final int WORD = 1;
        private static final int NAME = 2;
        private static final int NUMBER = 3;
        private static final int STOP = 4;
        private static final int WRONG = 5;

        private static final int NAME_LETTERS = 6;
        private static final int BEYOND_ALL = 1000000;

        private byte[] bytes = new byte[0];
        private int length;
        private int next;
        private int sort;
        private int start;
        private Word word = Word.ACCOUNT;
        private int letters;
        private int number;

        private void begin(byte[] from, int n) {
            bytes = from;
            length = Math.min(n, from.length);
            next = 0;
            advance();
        }

        private void advance() {
            while (next < length && (bytes[next] == 10 || bytes[next] == 32)) {
                next++;
            }
            start = next;
            if (next >= length) {
                sort = END;
            } else if (isLetter(bytes[next])) {
                readWord();
            } else if (isDigit(bytes[next])) {
                readNumber();
            } else {
                sort = bytes[next] == ';' ? STOP : WRONG;
                next++;
            }
        }

        private void readWord() {
            long code = 0;
            while (next < length && isLetter(bytes[next])) {
                if (next - start < Word.MOST_LETTERS) {
                    code = code << 5 | bytes[next] - 'a' + 1;
                }
                next++;
            }
            int size = next - start;
            sort = size <= NAME_LETTERS ? NAME : WRONG;
            letters = size <= NAME_LETTERS ? (int) (code << 5 * (NAME_LETTERS - size)) : 0;
            for (int i = 0; i < WORDS.length && size <= Word.MOST_LETTERS; i++) {
                if (WORDS[i].code == code) {
                    sort = WORD;
                    word = WORDS[i];
                }
            }
        }

        private void readNumber() {
            number = 0;
            while (next < length && isDigit(bytes[next])) {
                // However many digits come, it stays beyond every bound and never wraps around.
                if (number < BEYOND_ALL) {
                    number = 10 * number + bytes[next] - '0';
                }
                next++;
            }
            sort = NUMBER;
        }

        private static boolean isLetter(byte sign) {
            return sign >= 'a' && sign <= 'z';
        }

        private static boolean isDigit(byte sign) {
            return sign >= '0' && sign <= '9';
        }
    }

    /**
     * Reads a TEXT into Terms and a Log. Behind the first FAULT its methods go on with numbers that
     * can stand anywhere, and nothing more is kept.
     */
    private static final class Parser {
        private static final int WRONG_TOKEN = 1;
        private static final int TOO_MUCH = 2;
        private static final int TOLD_ALREADY = 3;
        private static final int NOT_TOLD = 4;

        private final Tokens tokens = new Tokens();
        private final int[] fields = new int[FIELDS];
        private Terms terms;
        private Log log;
        private boolean snapTold;
        private boolean seedTold;
        private int fault;
        private int place = NONE;

        /** How many LINES the first n bytes hold; NONE with a FAULT. */
        private int parse(byte[] bytes, int n, Terms intoTerms, Log intoLog) {
            terms = intoTerms;
            terms.clear();
            log = intoLog;
            log.clear();
            snapTold = false;
            seedTold = false;
            fault = 0;
            place = NONE;
            tokens.begin(bytes, n);
            int lines = 0;
            while (lines < n && fault == 0 && tokens.sort != Tokens.END) {
                if (stands(Tokens.WORD)) {
                    readLine(tokens.word);
                }
                lines++;
            }
            return fault == 0 ? lines : NONE;
        }

        private void readLine(Word word) {
            switch (word) {
                case ACCOUNT:
                    readAccount();
                    break;
                case LIFT:
                    readLift();
                    break;
                case TALLY:
                    readTally();
                    break;
                case SNAP:
                    readSnap();
                    break;
                case SEED:
                    readSeed();
                    break;
                case VOID:
                    readVoid();
                    break;
                default:
                    readEvent(word.kind);
                    break;
            }
        }

        private void readAccount() {
            needRoom(terms.accounts, MOST_ACCOUNTS);
            tokens.advance();
            int start = tokens.start;
            int name = takeName();
            if (terms.accountNamed(name) != NONE) {
                fail(TOLD_ALREADY, start);
            }
            takeStop();
            if (fault == 0) {
                terms.addAccount(name);
            }
        }

        private void readLift() {
            tokens.advance();
            int kind = takeNamed(tokens.word.kind);
            int start = tokens.start;
            int shape = takeNumber(1, SHAPES - 1);
            if (terms.countSteps(kind, shape) >= MOST_STEPS) {
                fail(TOO_MUCH, start);
            }
            int op = takeNamed(tokens.word.op);
            int field = takeNumber(1, FIELDS);
            int number = op == COPY ? takeNumber(1, FIELDS) : takeNumber(0, 999);
            takeStop();
            if (fault == 0) {
                terms.addStep(kind, shape, op, field, number);
            }
        }

        private void readTally() {
            needRoom(terms.tallies, MOST_TALLIES);
            tokens.advance();
            int start = tokens.start;
            int name = takeName();
            if (terms.tallyNamed(name) != NONE) {
                fail(TOLD_ALREADY, start);
            }
            int kind = takeNamed(tokens.word.kind);
            int field = takeNumber(1, FIELDS);
            takeStop();
            if (fault == 0) {
                terms.addTally(name, kind, field);
            }
        }

        private void readSnap() {
            if (snapTold) {
                fail(TOLD_ALREADY, tokens.start);
            }
            snapTold = true;
            tokens.advance();
            terms.every = takeNumber(1, MOST_EVERY);
            terms.most = takeNumber(0, MOST_KEEP);
            takeStop();
        }

        private void readSeed() {
            if (seedTold) {
                fail(TOLD_ALREADY, tokens.start);
            }
            seedTold = true;
            tokens.advance();
            terms.seed = takeNumber(0, MOST_NUMBER);
            takeStop();
        }

        private void readVoid() {
            needRoom(log.size, MOST_TOLD_EVENTS);
            tokens.advance();
            int start = tokens.start;
            int event = takeNumber(0, Integer.MAX_VALUE);
            if (!log.holdsPlain(event)) {
                fail(NOT_TOLD, start);
            } else if (log.voidedBy[event] != NONE) {
                fail(TOLD_ALREADY, start);
            }
            int time = takeNumber(leastTime(), LATEST_TIME);
            takeStop();
            if (fault == 0) {
                log.addVoid(event, time);
            }
        }

        private void readEvent(int kind) {
            if (kind == NONE) {
                fail(WRONG_TOKEN, tokens.start);
                return;
            }
            needRoom(log.size, MOST_TOLD_EVENTS);
            tokens.advance();
            int account = takeAccount();
            int start = tokens.start;
            int other = kind == MOVE ? takeAccount() : NONE;
            if (other == account) {
                fail(TOLD_ALREADY, start);
            }
            int time = takeNumber(leastTime(), LATEST_TIME);
            int shape = takeNumber(1, SHAPES);
            for (int i = 0; i < FIELDS; i++) {
                fields[i] = i < shape ? takeNumber(0, MOST_NUMBER) : 0;
            }
            takeStop();
            if (fault == 0) {
                log.add(kind, account, other, time, shape, fields);
            }
        }

        /** At the word of a LINE: too much, if as many as can be are told already. */
        private void needRoom(int told, int most) {
            if (told >= most) {
                fail(TOO_MUCH, tokens.start);
            }
        }

        private void fail(int number, int where) {
            if (fault == 0) {
                fault = number;
                place = where;
            }
        }

        /** Whether the TOKEN is of the sort that must stand there. */
        private boolean stands(int sort) {
            if (tokens.sort != sort) {
                fail(WRONG_TOKEN, tokens.start);
            }
            return fault == 0;
        }

        private void takeStop() {
            if (stands(Tokens.STOP)) {
                tokens.advance();
            }
        }

        private int takeName() {
            if (!stands(Tokens.NAME)) {
                return 0;
            }
            int name = tokens.letters;
            tokens.advance();
            return name;
        }

        private int takeNumber(int least, int most) {
            if (!stands(Tokens.NUMBER)) {
                return least;
            }
            int number = tokens.number;
            if (number < least || number > most) {
                fail(TOO_MUCH, tokens.start);
                return least;
            }
            tokens.advance();
            return number;
        }

        private int leastTime() {
            return Math.max(0, log.latestTime());
        }

        private int takeAccount() {
            if (!stands(Tokens.NAME)) {
                return 0;
            }
            int account = terms.accountNamed(tokens.letters);
            if (account == NONE) {
                fail(NOT_TOLD, tokens.start);
                return 0;
            }
            tokens.advance();
            return account;
        }

        /** Takes a word for the number of the KIND or the OP that it names, NONE if it names none. */
        private int takeNamed(int number) {
            if (!stands(Tokens.WORD)) {
                return 0;
            }
            if (number == NONE) {
                fail(WRONG_TOKEN, tokens.start);
                return 0;
            }
            tokens.advance();
            return number;
        }
    }

    /** What a TEXT tells beside its EVENTS. */
    private static final class Terms {
        private static final int GROUPS = KINDS * (SHAPES - 1);

        private final int[] accountName = new int[MOST_ACCOUNTS];
        private int accounts;
        private final int[] tallyName = new int[MOST_TALLIES];
        private final int[] tallyKind = new int[MOST_TALLIES];
        private final int[] tallyField = new int[MOST_TALLIES];
        private int tallies;
        private final int[] steps = new int[GROUPS];
        private final int[] stepOp = new int[GROUPS * MOST_STEPS];
        private final int[] stepField = new int[GROUPS * MOST_STEPS];
        private final int[] stepNumber = new int[GROUPS * MOST_STEPS];
        private int every = 20;
        private int most = 3;
        private int seed;

        private void clear() {
            accounts = 0;
            tallies = 0;
            for (int i = 0; i < GROUPS; i++) {
                steps[i] = 0;
            }
            every = 20;
            most = 3;
            seed = 0;
        }

        private int accountNamed(int name) {
            return find(accountName, accounts, name);
        }

        private int tallyNamed(int name) {
            return find(tallyName, tallies, name);
        }

        private static int find(int[] names, int size, int name) {
            for (int i = 0; i < size && i < names.length; i++) {
                if (names[i] == name) {
                    return i;
                }
            }
            return NONE;
        }

        private void addAccount(int name) {
            if (accounts < MOST_ACCOUNTS) {
                accountName[accounts] = name;
                accounts++;
            }
        }

        private void addTally(int name, int kind, int field) {
            if (tallies < MOST_TALLIES) {
                tallyName[tallies] = name;
                tallyKind[tallies] = kind;
                tallyField[tallies] = field;
                tallies++;
            }
        }

        /** The place of the STEPS of a KIND from a SHAPE 1, 2. */
        private static int group(int kind, int shape) {
            return (SHAPES - 1) * kind + shape - 1;
        }

        private int countSteps(int kind, int shape) {
            return steps[group(kind, shape)];
        }

        private void addStep(int kind, int shape, int op, int field, int number) {
            int group = group(kind, shape);
            if (steps[group] < MOST_STEPS) {
                int step = MOST_STEPS * group + steps[group];
                stepOp[step] = op;
                stepField[step] = field;
                stepNumber[step] = number;
                steps[group]++;
            }
        }

        /** LIFTS an EVENT, as if the bare KIND had no STEPS from the bare SHAPE (NONE: it has all). */
        private void lift(Log log, int event, int bareKind, int bareShape) {
            log.unlift(event);
            int kind = log.kind[event];
            if (kind == VOID) {
                return;
            }
            for (int shape = log.shape[event]; shape < SHAPES; shape++) {
                int group = group(kind, shape);
                int end = kind == bareKind && shape == bareShape ? 0 : steps[group];
                for (int i = 0; i < end; i++) {
                    int step = MOST_STEPS * group + i;
                    takeStep(log, FIELDS * event, step);
                    if (log.lifted[FIELDS * event + stepField[step] - 1] > MOST_LIFTED) {
                        log.broken[event] = 1;
                        return;
                    }
                }
            }
        }

        private void takeStep(Log log, int firstField, int step) {
            int index = firstField + stepField[step] - 1;
            int number = stepNumber[step];
            switch (stepOp[step]) {
                case SET:
                    log.lifted[index] = number;
                    break;
                case MUL:
                    log.lifted[index] *= number;
                    break;
                case ADD:
                    log.lifted[index] += number;
                    break;
                default:
                    log.lifted[index] = log.lifted[firstField + number - 1];
                    break;
            }
        }
    }

    /** The EVENTS, with their FIELDS as they came and LIFTED. */
    private static final class Log {
        private final int[] kind = new int[MOST_EVENTS];
        private final int[] account = new int[MOST_EVENTS];
        private final int[] other = new int[MOST_EVENTS];
        private final int[] time = new int[MOST_EVENTS];
        private final int[] shape = new int[MOST_EVENTS];
        private final int[] told = new int[FIELDS * MOST_EVENTS];
        private final int[] lifted = new int[FIELDS * MOST_EVENTS];
        private final int[] broken = new int[MOST_EVENTS];
        private final int[] voidedBy = new int[MOST_EVENTS];
        private final int[] weightAhead = new int[MOST_EVENTS + 1];
        private int size;

        private void clear() {
            size = 0;
        }

        private boolean holds(int event) {
            return event >= 0 && event < size;
        }

        /** Whether it holds an EVENT that is no VOID. */
        private boolean holdsPlain(int event) {
            return holds(event) && kind[event] != VOID;
        }

        private int latestTime() {
            return size > 0 ? time[size - 1] : ABSENT;
        }

        private void add(int kindOf, int from, int to, int when, int shapeOf, int[] fields) {
            if (size >= MOST_EVENTS || fields.length != FIELDS) {
                return;
            }
            kind[size] = kindOf;
            account[size] = from;
            other[size] = to;
            time[size] = when;
            shape[size] = shapeOf;
            System.arraycopy(fields, 0, told, FIELDS * size, FIELDS);
            broken[size] = 0;
            voidedBy[size] = NONE;
            weightAhead[size + 1] = weightAhead[size] + 1 + SHAPES - shapeOf;
            size++;
        }

        private void addVoid(int event, int when) {
            if (size >= MOST_EVENTS || !holds(event)) {
                return;
            }
            kind[size] = VOID;
            account[size] = NONE;
            other[size] = event;
            time[size] = when;
            shape[size] = 0;
            broken[size] = 0;
            voidedBy[size] = NONE;
            weightAhead[size + 1] = weightAhead[size] + 1;
            voidedBy[event] = size;
            size++;
        }

        private void cutTo(int events) {
            for (int event = size - 1; event >= events && event >= 0; event--) {
                if (kind[event] == VOID) {
                    voidedBy[other[event]] = NONE;
                }
                size = event;
            }
        }

        private void unlift(int event) {
            System.arraycopy(told, FIELDS * event, lifted, FIELDS * event, FIELDS);
            broken[event] = 0;
        }

        private int weights(int fromPlace, int toPlace) {
            return weightAhead[toPlace] - weightAhead[fromPlace];
        }

        /** How many EVENTS there are up to a TIME: none comes behind a later one. */
        private int placeAt(int when) {
            int place = 0;
            while (place < size && time[place] <= when) {
                place++;
            }
            return place;
        }

        private int countVoided() {
            int voided = 0;
            for (int event = 0; event < size; event++) {
                if (voidedBy[event] != NONE) {
                    voided++;
                }
            }
            return voided;
        }

        private void copyFrom(Log from) {
            size = from.size;
            System.arraycopy(from.kind, 0, kind, 0, size);
            System.arraycopy(from.account, 0, account, 0, size);
            System.arraycopy(from.other, 0, other, 0, size);
            System.arraycopy(from.time, 0, time, 0, size);
            System.arraycopy(from.shape, 0, shape, 0, size);
            System.arraycopy(from.told, 0, told, 0, FIELDS * size);
            System.arraycopy(from.lifted, 0, lifted, 0, FIELDS * size);
            System.arraycopy(from.broken, 0, broken, 0, size);
            System.arraycopy(from.voidedBy, 0, voidedBy, 0, size);
            System.arraycopy(from.weightAhead, 0, weightAhead, 0, size + 1);
        }
    }

    /** A STATE, with the CAUSES of the EVENTS that it was replayed from. */
    private static final class State {
        private static final int IS_BROKEN = 1;
        private static final int NOT_OPEN = 2;
        private static final int TOO_LITTLE = 3;

        private final int[] balance = new int[MOST_ACCOUNTS];
        private final int[] locked = new int[MOST_ACCOUNTS];
        private final int[] limit = new int[MOST_ACCOUNTS];
        private final int[] open = new int[MOST_ACCOUNTS];
        private final int[] cause = new int[MOST_EVENTS];
        private int horizon;
        private int skipped;

        /** Passed over will be EVENTS with a VOID ahead of the horizon, and the skipped one (or NONE). */
        private void begin(int newHorizon, int newSkipped) {
            for (int i = 0; i < MOST_ACCOUNTS; i++) {
                balance[i] = 0;
                locked[i] = 0;
                limit[i] = 0;
                open[i] = 0;
            }
            horizon = newHorizon;
            skipped = newSkipped;
        }

        private void replay(Log log, int place, int newHorizon, int newSkipped) {
            begin(newHorizon, newSkipped);
            for (int event = 0; event < place; event++) {
                step(log, event);
            }
        }

        private void step(Log log, int event) {
            cause[event] = 0;
            if (!passesOver(log, event)) {
                cause[event] = causeOf(log, event);
                if (cause[event] == 0) {
                    change(log, event);
                }
            }
        }

        private boolean passesOver(Log log, int event) {
            int voidedBy = log.voidedBy[event];
            return log.kind[event] == VOID || event == skipped || voidedBy != NONE && voidedBy < horizon;
        }

        private int causeOf(Log log, int event) {
            if (log.broken[event] != 0) {
                return IS_BROKEN;
            }
            int kind = log.kind[event];
            int account = log.account[event];
            if (kind == OPEN) {
                return open[account] != 0 ? NOT_OPEN : 0;
            }
            if (open[account] == 0 || kind == MOVE && open[log.other[event]] == 0) {
                return NOT_OPEN;
            }
            int one = log.lifted[FIELDS * event];
            int two = log.lifted[FIELDS * event + 1];
            return isTooLittle(kind, account, one, two) ? TOO_LITTLE : 0;
        }

        private boolean isTooLittle(int kind, int account, int one, int two) {
            switch (kind) {
                case TAKE:
                case MOVE:
                    return balance[account] - one - two - locked[account] < -limit[account];
                case LOCK:
                    return locked[account] + one > balance[account];
                case FREE:
                    return locked[account] - one < 0;
                case CLOSE:
                    return balance[account] != 0 || locked[account] != 0;
                default:
                    return false;
            }
        }

        private void change(Log log, int event) {
            int account = log.account[event];
            int one = log.lifted[FIELDS * event];
            int two = log.lifted[FIELDS * event + 1];
            switch (log.kind[event]) {
                case OPEN:
                    open[account] = 1;
                    limit[account] = one;
                    balance[account] = 0;
                    locked[account] = 0;
                    break;
                case PUT:
                    balance[account] += one - two;
                    break;
                case TAKE:
                    balance[account] -= one + two;
                    break;
                case LOCK:
                    locked[account] += one;
                    break;
                case FREE:
                    locked[account] -= one;
                    break;
                case MOVE:
                    balance[account] -= one + two;
                    balance[log.other[event]] += one;
                    break;
                default:
                    open[account] = 0;
                    break;
            }
        }

        private int look(int account, int what) {
            switch (what) {
                case 0:
                    return balance[account];
                case 1:
                    return locked[account];
                case 2:
                    return limit[account];
                case 3:
                    return open[account];
                default:
                    return NO;
            }
        }

        private int countAside(int from, int to) {
            int aside = 0;
            for (int event = from; event < to; event++) {
                if (cause[event] != 0) {
                    aside++;
                }
            }
            return aside;
        }

        private int countOpen() {
            int opened = 0;
            for (int i = 0; i < MOST_ACCOUNTS; i++) {
                opened += open[i];
            }
            return opened;
        }

        private int sumBalances() {
            int sum = 0;
            for (int i = 0; i < MOST_ACCOUNTS; i++) {
                sum += balance[i];
            }
            return sum;
        }
    }

    /** The PLACES of the SNAPSHOTS, upwards, with EVERY and KEEP (most). */
    private static final class Shots {
        private final int[] place = new int[MOST_KEEP + 1];
        private int size;
        private int every;
        private int most;

        /** Takes them anew along all EVENTS; how many were taken behind those from one on. */
        private int retake(Log log, int since) {
            size = 0;
            int taken = 0;
            for (int event = 0; event < log.size; event++) {
                if (log.kind[event] == VOID) {
                    letGoAbove(log.other[event]);
                }
                boolean isDue = log.weights(latestUpTo(event), event + 1) >= every;
                if (isDue && size <= MOST_KEEP) {
                    place[size] = event + 1;
                    size++;
                    taken += event >= since ? 1 : 0;
                    if (size > most) {
                        letGo(leastWorth(log));
                    }
                }
            }
            return taken;
        }

        private void letGoAbove(int event) {
            while (size > 0 && place[size - 1] > event) {
                size--;
            }
        }

        private int leastWorth(Log log) {
            if (most == 0) {
                return size - 1;
            }
            int least = 0;
            int leastGap = Integer.MAX_VALUE;
            for (int i = 0; i < size - 1; i++) {
                int gap = log.weights(i > 0 ? place[i - 1] : 0, place[i + 1]);
                if (gap < leastGap) {
                    leastGap = gap;
                    least = i;
                }
            }
            return least;
        }

        private void letGo(int k) {
            for (int i = k + 1; i < size; i++) {
                place[i - 1] = place[i];
            }
            size--;
        }

        /** The latest at or ahead of a PLACE, 0 (the beginning) if there is none. */
        private int latestUpTo(int limit) {
            int latest = 0;
            for (int i = 0; i < size; i++) {
                if (place[i] <= limit) {
                    latest = place[i];
                }
            }
            return latest;
        }

        /** The first behind a PLACE, the end if there is none. */
        private int nextBehind(int limit, int end) {
            for (int i = 0; i < size; i++) {
                if (place[i] > limit) {
                    return place[i];
                }
            }
            return end;
        }
    }

    /** How far each TALLY has SEEN, and by a bit for each TALLY who counts an EVENT. */
    private static final class Tallies {
        private final int[] place = new int[MOST_TALLIES];
        private final int[] counted = new int[MOST_EVENTS];

        private void clear() {
            for (int i = 0; i < MOST_TALLIES; i++) {
                restart(i);
            }
        }

        private void restart(int tally) {
            place[tally] = 0;
            for (int event = 0; event < MOST_EVENTS; event++) {
                takeOff(tally, event);
            }
        }

        private void putOn(int tally, int event) {
            counted[event] |= 1 << tally;
        }

        private void takeOff(int tally, int event) {
            counted[event] &= ~(1 << tally);
        }

        private boolean isCounted(int tally, int event) {
            return (counted[event] >> tally & 1) != 0;
        }

        private int countCounted(int tally) {
            int all = 0;
            for (int event = 0; event < MOST_EVENTS; event++) {
                all += counted[event] >> tally & 1;
            }
            return all;
        }

        private void copyFrom(Tallies from) {
            System.arraycopy(from.place, 0, place, 0, MOST_TALLIES);
            System.arraycopy(from.counted, 0, counted, 0, MOST_EVENTS);
        }
    }

    /** What undo() and back() come back to, beside the EVENTS themselves. */
    private static final class Mark {
        private int events;
        private int every;
        private int most;
        private final Tallies tallies = new Tallies();
    }
}
