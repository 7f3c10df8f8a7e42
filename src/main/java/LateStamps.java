import java.util.NoSuchElementException;

/**
 * A store that goes by stamps: who reads gets the version of its stamp at once, a write that comes
 * too late for somebody who has read is refused, and who has read what is not sure waits behind it
 * or falls with it. The document's promises say what each call answers.
 */
public final class LateStamps {
    /** None; refused. */
    public static final int NONE = -1;
    /** Not told. */
    public static final int HIDDEN = -1000000;

    private static final int SEATS = 8;
    private static final int KEYS_MOST = 6;
    private static final int VALUE_MOST = 99;
    private static final int SCRIPTS_MOST = 4;
    private static final int STEPS_MOST = 16;
    private static final int MIXED_STEPS_MOST = 6;

    // The first six are numbered as STEPS are told.
    private static final int OPEN = 0;
    private static final int READ = 1;
    private static final int WRITE = 2;
    private static final int COMMIT = 3;
    private static final int ABORT = 4;
    private static final int PRUNE = 5;
    private static final int OPEN_AT = 6;
    private static final int RETRY = 7;

    private static final int ACTIVE = 1;
    private static final int WAITING = 2;
    private static final int SURE = 3;
    private static final int FALLEN = 4;

    // Why an ACT is refused; these are the STATUS numbers.
    private static final int MISSING = 0;
    private static final int BOUNDS = 1;
    private static final int UNFIT = 2;
    private static final int TOO_MUCH = 3;
    private static final int REASONS = 4;

    /** What a WRITE that is LATE and a COMMIT that FALLS answer. */
    private static final int LOST = -2;
    private static final int NO_SUCH_SORT = -2;

    private final Tape tape = new Tape();
    private final StoreText storeText = new StoreText();
    private final Script[] scripts = new Script[SCRIPTS_MOST];
    private Script draft = new Script();
    private int scriptCount;
    private final World world = new World();
    private final Past past = new Past();
    private final World kept = new World();
    private boolean hasImage;
    private final Apart apart = new Apart();
    private final Draws draws = new Draws();
    private final int[] refused = new int[REASONS];

    public LateStamps() {
    }

    // ---- texts ----

    public int feed(int a, int b, int c, int d, int e) {
        int more = Tape.bytesIn(a) + Tape.bytesIn(b) + Tape.bytesIn(c) + Tape.bytesIn(d) + Tape.bytesIn(e);
        if (tape.length + more > Tape.MOST) {
            return NONE;
        }
        tape.take(a);
        tape.take(b);
        tape.take(c);
        tape.take(d);
        tape.take(e);
        return tape.length;
    }

    public boolean end(int n) {
        if (n < 0 || n > tape.length) {
            return false;
        }
        tape.length = n;
        return true;
    }

    public int fault(int sort) {
        if (sort == 0) {
            return storeText.faultOf(tape);
        }
        return sort == 1 ? draft.faultOf(tape) : NO_SUCH_SORT;
    }

    public int text(int sort) {
        if (sort == 0) {
            return takeStore();
        }
        return sort == 1 ? takeScript() : NONE;
    }

    private int takeStore() {
        if (storeText.faultOf(tape) != NONE) {
            return NONE;
        }
        tape.length = 0;
        world.begin(storeText);
        past.forget();
        hasImage = false;
        return world.keys();
    }

    private int takeScript() {
        if (scriptCount >= SCRIPTS_MOST || draft.faultOf(tape) != NONE) {
            return NONE;
        }
        tape.length = 0;
        scripts[scriptCount] = draft;
        draft = new Script();
        scriptCount++;
        return scriptCount - 1;
    }

    // ---- what there is ----

    public int rule(int what) {
        return world.hasStore() && within(what, 3) ? world.ruleOf(what) : NONE;
    }

    public int seat(int seat, int what) throws NoSuchElementException {
        if (!world.hasStore() || !within(seat, SEATS) || !within(what, 5)) {
            throw new NoSuchElementException("no such seat or question");
        }
        if (what != 0 && world.stateOf(seat) == 0) {
            throw new NoSuchElementException("nobody is at the seat");
        }
        return world.partOf(seat, what);
    }

    public int readBy(int seat, int key) {
        if (!within(seat, SEATS) || !world.hasKey(key) || world.stateOf(seat) == 0) {
            return NONE;
        }
        return world.lastRead(seat, key);
    }

    public int deed(int seat, int i, int what) {
        if (!within(seat, SEATS) || !within(what, 3) || !within(i, world.deedsOf(seat))) {
            return HIDDEN;
        }
        return world.deedPart(seat, i, what);
    }

    public int versions(int key) {
        return world.hasKey(key) ? world.versionsOf(key) : NONE;
    }

    public int version(int key, int i, int what) {
        if (!world.hasKey(key) || !within(what, 4) || !within(i, world.versionsOf(key))) {
            return HIDDEN;
        }
        return world.versionPart(key, i, what);
    }

    // ---- acts by hand ----

    public int open(int seat, int way) {
        return tried(OPEN, seat, way, NONE);
    }

    public int openAt(int seat, int way, int stamp) {
        return tried(OPEN_AT, seat, way, stamp);
    }

    public int read(int seat, int key) {
        return tried(READ, seat, key, NONE);
    }

    public int write(int seat, int key, int value) {
        return tried(WRITE, seat, key, value);
    }

    public int commit(int seat) {
        return tried(COMMIT, seat, NONE, NONE);
    }

    public int abort(int seat) {
        return tried(ABORT, seat, NONE, NONE);
    }

    public int retry(int seat) {
        if (isRefused(RETRY, seat, NONE, NONE)) {
            return NONE;
        }
        past.keep(world);
        return world.redoAll(seat);
    }

    public int prune() {
        return tried(PRUNE, NONE, NONE, NONE);
    }

    private boolean isRefused(int kind, int seat, int second, int third) {
        int reason = world.refusal(kind, seat, second, third);
        if (within(reason, REASONS)) {
            refused[reason]++;
            return true;
        }
        return false;
    }

    private int tried(int kind, int seat, int second, int third) {
        if (isRefused(kind, seat, second, third)) {
            return NONE;
        }
        past.keep(world);
        return world.act(kind, seat, second, third);
    }

    /** As by hand, but a refusal leaves no trace in the STATUS. */
    private boolean triedQuietly(int kind, int seat, int second, int third) {
        if (world.refusal(kind, seat, second, third) != NONE) {
            return false;
        }
        past.keep(world);
        world.act(kind, seat, second, third);
        return true;
    }

    public int years(int n, long seed) {
        if (!world.hasStore() || n < 1 || n > 40) {
            return NONE;
        }
        draws.begin(seed);
        for (int i = 0; i < n; i++) {
            oneYear();
        }
        return world.clock();
    }

    private void oneYear() {
        int sort = draws.next(8);
        int seat = draws.next(SEATS);
        if (sort == 0) {
            triedQuietly(OPEN, seat, draws.next(2), NONE);
        } else if (sort <= 2) {
            triedQuietly(READ, seat, draws.next(world.keys()), NONE);
        } else if (sort <= 4) {
            int key = draws.next(world.keys());
            triedQuietly(WRITE, seat, key, draws.next(VALUE_MOST + 1));
        } else {
            triedQuietly(sort <= 6 ? COMMIT : ABORT, seat, NONE, NONE);
        }
    }

    public int status(int what) {
        return within(what, REASONS) ? refused[what] : NONE;
    }

    public int undo() {
        return past.bringBack(world);
    }

    public int log(int i, int what) {
        return within(what, 3) && within(i, world.logLength()) ? world.logPart(i, what) : HIDDEN;
    }

    // ---- what would be ----

    public int would(int seat, int key, int what) {
        if (!within(seat, SEATS) || !world.hasKey(key) || world.stateOf(seat) != ACTIVE) {
            return NONE;
        }
        if (what == 0) {
            return world.markToRead(seat, key);
        }
        if (what == 1) {
            return world.isLate(key, world.stampOf(seat)) ? 1 : 0;
        }
        return NONE;
    }

    public int since(int key, int what) {
        return world.hasKey(key) && within(what, 2) ? world.timely(key, what) : NONE;
    }

    public int falls(int seat) {
        return within(seat, SEATS) && world.isLive(seat) ? world.fallingWith(seat) : NONE;
    }

    public int sures(int seat) {
        return within(seat, SEATS) && world.stateOf(seat) == ACTIVE ? apart.sureBy(world, seat) : NONE;
    }

    public int retries(int seat) {
        return within(seat, SEATS) && world.stateOf(seat) == FALLEN ? apart.retriesOf(world, seat) : NONE;
    }

    public int asOf(int key, int stamp) {
        return world.hasKey(key) && stamp >= world.floor() ? world.sureValueAt(key, stamp) : NONE;
    }

    // ---- scripts ----

    public int step(int script, int i, int what) {
        Script told = scriptAt(script);
        if (told == null || !within(what, Script.PARTS) || !within(i, told.length)) {
            return HIDDEN;
        }
        return told.part(i, what);
    }

    public int run(int script, int what) {
        Script told = scriptAt(script);
        if (told == null || !world.hasStore() || !within(what, 2)) {
            return HIDDEN;
        }
        int done = apart.stepsDone(world, told);
        if (what == 1) {
            return Integer.bitCount(apart.sureBehind());
        }
        return done == told.length ? NONE : done;
    }

    public int perform(int script) {
        Script told = scriptAt(script);
        if (told == null || !world.hasStore()) {
            return NONE;
        }
        int done = 0;
        for (int i = 0; i < told.length; i++) {
            if (!triedQuietly(told.part(i, 0), told.part(i, 1), told.part(i, 2), told.part(i, 3))) {
                break;
            }
            done++;
        }
        return done;
    }

    public int mix(int one, int other, int what) {
        Script first = scriptAt(one);
        Script second = scriptAt(other);
        if (!world.hasStore() || first == null || second == null || !within(what, 3)) {
            return HIDDEN;
        }
        if (first.length > MIXED_STEPS_MOST || second.length > MIXED_STEPS_MOST) {
            return HIDDEN;
        }
        if (what == 0) {
            return rowsOf(first.length, second.length);
        }
        apart.beginMix(world);
        apart.mixFrom(first, second, 0, 0, 0);
        return what == 1 ? apart.goodRows() : apart.firstGoodRow();
    }

    /** How many ways there are to lay two rows into one, each in its order. */
    private static int rowsOf(int one, int other) {
        int rows = 1;
        for (int i = 1; i <= other; i++) {
            rows = rows * (one + i) / i;
        }
        return rows;
    }

    private Script scriptAt(int script) {
        return within(script, scriptCount) && script < SCRIPTS_MOST ? scripts[script] : null;
    }

    // ---- odds, shares, all ----

    public int odds(int seat, int chance) {
        if (!world.hasStore() || !within(seat, SEATS) || chance < 0 || chance > 100) {
            return NONE;
        }
        return apart.oddsOf(world, seat, chance);
    }

    public int shares(int key, int c) {
        int total = world.versionsOfAll();
        if (!world.hasKey(key) || c < 0 || c > 999 || total <= 0) {
            return NONE;
        }
        return c * world.versionsOf(key) / total;
    }

    public int all(int what) {
        if (!world.hasStore()) {
            return HIDDEN;
        }
        switch (what) {
            case 0: return world.seatsIn(ACTIVE);
            case 1: return world.seatsIn(WAITING);
            case 2: return world.seatsIn(SURE);
            case 3: return world.seatsIn(FALLEN);
            case 4: return world.doomedSeats();
            case 5: return world.unsureKeys();
            case 6: return world.oldestSeat();
            case 7: return world.fullestKey();
            case 8: return world.worstSeat();
            case 9: return world.longestChain();
            case 10: return apart.spareOf(world);
            case 11: return world.clock();
            case 12: return world.floor();
            case 13: return world.versionsOfAll();
            default: return HIDDEN;
        }
    }

    // ---- images ----

    public int image() {
        if (!world.hasStore()) {
            return NONE;
        }
        kept.become(world);
        hasImage = true;
        return world.clock();
    }

    public int back() {
        if (!hasImage) {
            return NONE;
        }
        world.become(kept);
        past.forget();
        return world.clock();
    }

    public int count(int what) {
        switch (what) {
            case 0: return world.keys();
            case 1: return scriptCount;
            case 2: return tape.length;
            case 3: return world.stampsByHand();
            case 4: return world.logLength();
            case 5: return past.size;
            default: return HIDDEN;
        }
    }

    private static boolean within(int i, int bound) {
        return i >= 0 && i < bound;
    }

    /** The bytes that were fed, and the place up to which they are read as a text. */
    private static final class Tape {
        private static final int MOST = 240;
        private static final int END = -1;
        private static final int BLANK = 32;

        private final int[] bytes = new int[MOST];
        private int length;
        private int at;
        private int number;

        private static int bytesIn(int word) {
            int many = 0;
            for (int shift = 24; shift >= 0; shift -= 8) {
                if ((word >>> shift & 255) != 0) {
                    many++;
                }
            }
            return many;
        }

        private void take(int word) {
            for (int shift = 24; shift >= 0; shift -= 8) {
                int sign = word >>> shift & 255;
                if (sign != 0 && length < MOST) {
                    bytes[length] = sign;
                    length++;
                }
            }
        }

        private void rewind() {
            at = 0;
        }

        private int signHere() {
            return at < length && at < MOST ? bytes[at] : END;
        }

        private int nextSign() {
            for (int i = 0; i < MOST && signHere() == BLANK; i++) {
                at++;
            }
            return signHere();
        }

        private void pass() {
            at++;
        }

        private int digitHere() {
            int sign = signHere();
            return sign >= '0' && sign <= '9' ? sign - '0' : NONE;
        }

        /** A number of one or two digits; if there is none, the place stays at the byte that is wrong. */
        private boolean hasNumber(int least, int most) {
            nextSign();
            if (digitHere() == NONE) {
                return false;
            }
            number = digitHere();
            at++;
            if (digitHere() != NONE) {
                number = number * 10 + digitHere();
                at++;
                // A third digit is wrong itself, even behind two that are out of bounds.
                if (digitHere() != NONE) {
                    return false;
                }
            }
            if (number < least || number > most) {
                at--;
                return false;
            }
            return true;
        }
    }

    /** What a TAPE tells as a STORE. */
    private static final class StoreText {
        // MOST, how it is PRUNED, the STRIDE: by the places of their letters.
        private static final int RULES = 3;
        private static final int[] LETTERS = {'m', 'p', 't'};
        private static final int[] LEAST = {2, 0, 2};
        private static final int[] GREATEST = {9, 1, 20};
        private static final int[] WITHOUT = {6, 0, 10};

        private final int[] rules = new int[RULES];
        private final int[] values = new int[KEYS_MOST];
        private int keys;
        private boolean hasRules;

        private void reset() {
            for (int i = 0; i < RULES; i++) {
                rules[i] = WITHOUT[i];
            }
            keys = 0;
            hasRules = false;
        }

        private int faultOf(Tape tape) {
            reset();
            tape.rewind();
            for (int clause = 0; clause <= KEYS_MOST; clause++) {
                if (!hasClause(tape)) {
                    return tape.at;
                }
                int sign = tape.nextSign();
                if (sign == Tape.END) {
                    return keys == 0 ? tape.length : NONE;
                }
                if (sign != ';') {
                    return tape.at;
                }
                tape.pass();
            }
            // Behind seven clauses each further one begins with a second s or a seventh k.
            tape.nextSign();
            return tape.at;
        }

        private boolean hasClause(Tape tape) {
            int sign = tape.nextSign();
            if (sign == 's' && !hasRules) {
                hasRules = true;
                tape.pass();
                return hasRuleItems(tape);
            }
            if (sign == 'k' && keys < KEYS_MOST) {
                values[keys] = 0;
                keys++;
                tape.pass();
                return hasKeyItem(tape);
            }
            return false;
        }

        private boolean hasRuleItems(Tape tape) {
            int told = 0;
            for (int item = 0; item < RULES; item++) {
                int rule = ruleBy(tape.nextSign());
                if (!within(rule, RULES) || (told >> rule & 1) == 1) {
                    return true;
                }
                told |= 1 << rule;
                tape.pass();
                if (!tape.hasNumber(LEAST[rule], GREATEST[rule])) {
                    return false;
                }
                rules[rule] = tape.number;
            }
            return true;
        }

        private static int ruleBy(int letter) {
            for (int i = 0; i < RULES; i++) {
                if (LETTERS[i] == letter) {
                    return i;
                }
            }
            return NONE;
        }

        private boolean hasKeyItem(Tape tape) {
            if (tape.nextSign() != 'v') {
                return true;
            }
            tape.pass();
            if (!tape.hasNumber(0, VALUE_MOST) || keys < 1 || keys > KEYS_MOST) {
                return false;
            }
            values[keys - 1] = tape.number;
            return true;
        }
    }

    /** A SCRIPT: of each STEP its kind, its digits and its VALUE. */
    private static final class Script {
        private static final int PARTS = 4;

        private final int[] parts = new int[STEPS_MOST * PARTS];
        private int length;

        private int part(int i, int what) {
            return within(i, STEPS_MOST) && within(what, PARTS) ? parts[i * PARTS + what] : NONE;
        }

        private int faultOf(Tape tape) {
            tape.rewind();
            length = 0;
            for (int i = 0; i < STEPS_MOST; i++) {
                if (!hasStep(tape, i * PARTS)) {
                    return tape.at;
                }
                length++;
                int sign = tape.nextSign();
                if (sign == Tape.END) {
                    return NONE;
                }
                if (sign != ';' || i == STEPS_MOST - 1) {
                    return tape.at;
                }
                tape.pass();
            }
            return tape.at;
        }

        private boolean hasStep(Tape tape, int from) {
            if (from < 0 || from + PARTS > parts.length) {
                return false;
            }
            int kind = kindOf(tape.nextSign());
            if (kind == NONE) {
                return false;
            }
            tape.pass();
            parts[from] = kind;
            parts[from + 1] = NONE;
            parts[from + 2] = NONE;
            parts[from + 3] = NONE;
            int digits = kind <= WRITE ? 2 : kind == PRUNE ? 0 : 1;
            for (int i = 1; i <= digits; i++) {
                tape.nextSign();
                if (tape.digitHere() == NONE) {
                    return false;
                }
                parts[from + i] = tape.digitHere();
                tape.pass();
            }
            return kind != WRITE || hasValue(tape, from + 3);
        }

        private boolean hasValue(Tape tape, int place) {
            if (tape.nextSign() != ':') {
                return false;
            }
            tape.pass();
            if (!tape.hasNumber(0, VALUE_MOST) || !within(place, parts.length)) {
                return false;
            }
            parts[place] = tape.number;
            return true;
        }

        private static int kindOf(int sign) {
            switch (sign) {
                case 'o': return OPEN;
                case 'r': return READ;
                case 'w': return WRITE;
                case 'c': return COMMIT;
                case 'a': return ABORT;
                case 'p': return PRUNE;
                default: return NONE;
            }
        }
    }

    /** All that ACTS change, in one row of numbers, so that keeping a state and coming back to it is one copy. */
    private static final class World {
        private static final int VERSIONS_MOST = 9;
        private static final int DEEDS_MOST = 12;
        private static final int HANDS_MOST = 30;
        private static final int LOG_MOST = 60;
        private static final int CLOCK_MOST = 9999;

        // What the LOG tells, by its sorts.
        private static final int OPENS = 0;
        private static final int READS = 1;
        private static final int WRITES = 2;
        private static final int WAITS = 3;
        private static final int IS_SURE = 4;
        private static final int IS_FALLEN = 5;
        private static final int PRUNES = 6;

        // Where each thing stands in the row; the three RULES stand as they are asked for.
        private static final int MOST = 0;
        private static final int PRUNING = 1;
        private static final int STRIDE = 2;
        private static final int KEYS = 3;
        private static final int CLOCK = 4;
        private static final int FLOOR = 5;
        private static final int FELL = 6;
        private static final int HANDS = 7;
        private static final int LOGGED = 8;
        private static final int LOG_NEXT = 9;
        private static final int HAND = 10;
        // Of a SEAT these five stand as they are asked for, eight cells apart.
        private static final int STATE = HAND + HANDS_MOST;
        private static final int STAMP = STATE + SEATS;
        private static final int WAY = STAMP + SEATS;
        private static final int DEPENDS = WAY + SEATS;
        private static final int DOOMED = DEPENDS + SEATS;
        private static final int DEEDS = DOOMED + SEATS;
        private static final int DEED = DEEDS + SEATS;
        private static final int LAST_READ = DEED + SEATS * DEEDS_MOST;
        private static final int VERSIONS = LAST_READ + SEATS * KEYS_MOST;
        // Of a VERSION these four stand as they are asked for, SLOTS cells apart, MARKS rising.
        private static final int SLOTS = KEYS_MOST * VERSIONS_MOST;
        private static final int MARK = VERSIONS + KEYS_MOST;
        private static final int VALUE = MARK + SLOTS;
        private static final int SEEN = VALUE + SLOTS;
        private static final int OWNER = SEEN + SLOTS;
        private static final int LOG = OWNER + SLOTS;
        private static final int SIZE = LOG + LOG_MOST;

        private final int[] cells = new int[SIZE];

        private void begin(StoreText told) {
            for (int i = 0; i < SIZE; i++) {
                cells[i] = 0;
            }
            for (int rule = 0; rule < StoreText.RULES; rule++) {
                cells[MOST + rule] = told.rules[rule];
            }
            cells[KEYS] = told.keys;
            for (int key = 0; key < KEYS_MOST && key < told.keys; key++) {
                int slot = key * VERSIONS_MOST;
                cells[VERSIONS + key] = 1;
                cells[VALUE + slot] = told.values[key];
                cells[OWNER + slot] = NONE;
            }
        }

        private void become(World other) {
            System.arraycopy(other.cells, 0, cells, 0, SIZE);
        }

        // ---- what there is ----

        private int keys() {
            return cells[KEYS];
        }

        private boolean hasStore() {
            return cells[KEYS] > 0;
        }

        private boolean hasKey(int key) {
            return within(key, KEYS_MOST) && key < cells[KEYS];
        }

        private int ruleOf(int what) {
            return cells[MOST + what];
        }

        private int clock() {
            return cells[CLOCK];
        }

        private int floor() {
            return cells[FLOOR];
        }

        private int stampsByHand() {
            return cells[HANDS];
        }

        private int stateOf(int seat) {
            return cells[STATE + seat];
        }

        private int stampOf(int seat) {
            return cells[STAMP + seat];
        }

        private int partOf(int seat, int what) {
            return cells[STATE + what * SEATS + seat];
        }

        private boolean isLive(int seat) {
            return cells[STATE + seat] == ACTIVE || cells[STATE + seat] == WAITING;
        }

        private int lastRead(int seat, int key) {
            return cells[LAST_READ + seat * KEYS_MOST + key];
        }

        private int deedsOf(int seat) {
            return cells[DEEDS + seat];
        }

        private int deedPart(int seat, int i, int what) {
            int deed = cells[DEED + seat * DEEDS_MOST + i];
            if (what == 0) {
                return deed & 3;
            }
            return what == 1 ? deed >> 2 & 7 : (deed >> 5) - 1;
        }

        private int versionsOf(int key) {
            return cells[VERSIONS + key];
        }

        private int versionsOfAll() {
            int many = 0;
            for (int key = 0; key < KEYS_MOST; key++) {
                many += cells[VERSIONS + key];
            }
            return many;
        }

        private int versionPart(int key, int i, int what) {
            return cells[MARK + what * SLOTS + key * VERSIONS_MOST + i];
        }

        // ---- why an ACT can't be ----

        /** The STATUS number by which an ACT is refused; NONE: it can be. */
        private int refusal(int kind, int seat, int second, int third) {
            if (!hasStore()) {
                return MISSING;
            }
            if (kind == PRUNE) {
                return NONE;
            }
            if (!within(seat, SEATS)) {
                return MISSING;
            }
            switch (kind) {
                case OPEN: return openRefusal(seat, second);
                case OPEN_AT: return handRefusal(seat, second, third);
                case READ: return readRefusal(seat, second);
                case WRITE: return writeRefusal(seat, second, third);
                case COMMIT: return stateRefusal(seat, ACTIVE, ACTIVE);
                case ABORT: return stateRefusal(seat, ACTIVE, WAITING);
                case RETRY: return retryRefusal(seat);
                default: return MISSING;
            }
        }

        private int openRefusal(int seat, int way) {
            if (way != 0 && way != 1) {
                return BOUNDS;
            }
            if (isLive(seat)) {
                return UNFIT;
            }
            return isClockFull() ? TOO_MUCH : NONE;
        }

        private int handRefusal(int seat, int way, int stamp) {
            if (way != 0 && way != 1) {
                return BOUNDS;
            }
            if (isLive(seat) || !isFreeStamp(stamp)) {
                return UNFIT;
            }
            return cells[HANDS] >= HANDS_MOST ? TOO_MUCH : NONE;
        }

        private int readRefusal(int seat, int key) {
            return hasKey(key) ? stateRefusal(seat, ACTIVE, ACTIVE) : MISSING;
        }

        private int writeRefusal(int seat, int key, int value) {
            if (!hasKey(key) || cells[STATE + seat] == 0) {
                return MISSING;
            }
            if (value < 0 || value > VALUE_MOST) {
                return BOUNDS;
            }
            if (cells[STATE + seat] != ACTIVE) {
                return UNFIT;
            }
            return isFull(seat, key) ? TOO_MUCH : NONE;
        }

        private int retryRefusal(int seat) {
            int reason = stateRefusal(seat, FALLEN, FALLEN);
            return reason == NONE && isClockFull() ? TOO_MUCH : reason;
        }

        private int stateRefusal(int seat, int one, int other) {
            int state = cells[STATE + seat];
            if (state == 0) {
                return MISSING;
            }
            return state == one || state == other ? NONE : UNFIT;
        }

        private boolean isClockFull() {
            return cells[CLOCK] + cells[STRIDE] > CLOCK_MOST;
        }

        private boolean isFreeStamp(int stamp) {
            if (stamp <= cells[FLOOR] || stamp >= cells[CLOCK]) {
                return false;
            }
            int stride = cells[STRIDE];
            if (stride <= 0 || stamp % stride == 0) {
                return false;
            }
            for (int i = 0; i < HANDS_MOST && i < cells[HANDS]; i++) {
                if (cells[HAND + i] == stamp) {
                    return false;
                }
            }
            return true;
        }

        /** Whether a WRITE would make one VERSION too many; who is LATE makes none. */
        private boolean isFull(int seat, int key) {
            return cells[VERSIONS + key] >= cells[MOST]
                && ownSlot(key, seat) == NONE
                && !isLate(key, cells[STAMP + seat]);
        }

        // ---- ACTS, once nothing refuses them (RETRY goes by redoAll) ----

        private int act(int kind, int seat, int second, int third) {
            switch (kind) {
                case OPEN:
                    enter(seat, second, ticked());
                    return cells[STAMP + seat];
                case OPEN_AT:
                    keepHand(third);
                    enter(seat, second, third);
                    return third;
                case READ:
                    keepDeed(seat, READ, second, NONE);
                    return readKey(seat, second);
                case WRITE:
                    keepDeed(seat, WRITE, second, third);
                    return writeKey(seat, second, third);
                case COMMIT:
                    return commitAt(seat);
                case ABORT:
                    return fallWithAll(seat);
                case PRUNE:
                    return pruneAll();
                default:
                    return NONE;
            }
        }

        private int ticked() {
            cells[CLOCK] += cells[STRIDE];
            return cells[CLOCK];
        }

        private void keepHand(int stamp) {
            int hands = cells[HANDS];
            if (within(hands, HANDS_MOST)) {
                cells[HAND + hands] = stamp;
                cells[HANDS] = hands + 1;
            }
        }

        private void enter(int seat, int way, int stamp) {
            cells[STATE + seat] = ACTIVE;
            cells[STAMP + seat] = stamp;
            cells[WAY + seat] = way;
            cells[DEPENDS + seat] = 0;
            cells[DOOMED + seat] = 0;
            cells[DEEDS + seat] = 0;
            for (int key = 0; key < KEYS_MOST; key++) {
                cells[LAST_READ + seat * KEYS_MOST + key] = NONE;
            }
            note(OPENS, seat, stamp);
        }

        private void keepDeed(int seat, int what, int key, int value) {
            int deeds = cells[DEEDS + seat];
            if (within(deeds, DEEDS_MOST)) {
                cells[DEED + seat * DEEDS_MOST + deeds] = what | key << 2 | (value + 1) << 5;
                cells[DEEDS + seat] = deeds + 1;
            }
        }

        private int readKey(int seat, int key) {
            int slot = slotToRead(seat, key);
            if (!within(slot, SLOTS)) {
                return NONE;
            }
            if (cells[OWNER + slot] != seat) {
                leaveStamp(seat, key, slot);
            }
            note(READS, seat, cells[MARK + slot]);
            return cells[VALUE + slot];
        }

        /** The VERSION that a SEAT would READ; NONE: there is none. */
        private int slotToRead(int seat, int key) {
            int from = key * VERSIONS_MOST;
            for (int i = Math.min(cells[VERSIONS + key], VERSIONS_MOST) - 1; i >= 0; i--) {
                int slot = from + i;
                int owner = cells[OWNER + slot];
                boolean isTold = owner == NONE || owner == seat || cells[WAY + seat] == 1;
                if (isTold && cells[MARK + slot] <= cells[STAMP + seat]) {
                    return slot;
                }
            }
            return NONE;
        }

        private int markToRead(int seat, int key) {
            int slot = slotToRead(seat, key);
            return within(slot, SLOTS) ? cells[MARK + slot] : NONE;
        }

        private void leaveStamp(int seat, int key, int slot) {
            int stamp = cells[STAMP + seat];
            int owner = cells[OWNER + slot];
            cells[SEEN + slot] = Math.max(cells[SEEN + slot], stamp);
            cells[LAST_READ + seat * KEYS_MOST + key] = cells[MARK + slot];
            if (cells[WAY + seat] == 0) {
                doomBetween(key, cells[MARK + slot], stamp);
            } else if (owner != NONE) {
                cells[DEPENDS + seat] |= 1 << owner;
            }
        }

        private void doomBetween(int key, int mark, int stamp) {
            int from = key * VERSIONS_MOST;
            for (int i = 0; i < VERSIONS_MOST && i < cells[VERSIONS + key]; i++) {
                int between = cells[MARK + from + i];
                int owner = cells[OWNER + from + i];
                if (between > mark && between < stamp && owner >= 0 && owner < SEATS) {
                    cells[DOOMED + owner] = 1;
                }
            }
        }

        private boolean isLate(int key, int stamp) {
            int from = key * VERSIONS_MOST;
            for (int i = 0; i < VERSIONS_MOST && i < cells[VERSIONS + key]; i++) {
                if (cells[MARK + from + i] <= stamp && cells[SEEN + from + i] > stamp) {
                    return true;
                }
            }
            return false;
        }

        private int writeKey(int seat, int key, int value) {
            if (isLate(key, cells[STAMP + seat])) {
                note(WRITES, seat, LOST);
                fallWithAll(seat);
                return LOST;
            }
            int slot = ownSlot(key, seat);
            if (within(slot, SLOTS)) {
                cells[VALUE + slot] = value;
                note(WRITES, seat, 0);
                return 0;
            }
            addVersion(seat, key, value);
            note(WRITES, seat, 1);
            return 1;
        }

        private int ownSlot(int key, int seat) {
            int from = key * VERSIONS_MOST;
            for (int i = 0; i < VERSIONS_MOST && i < cells[VERSIONS + key]; i++) {
                if (cells[OWNER + from + i] == seat) {
                    return from + i;
                }
            }
            return NONE;
        }

        private void addVersion(int seat, int key, int value) {
            int stamp = cells[STAMP + seat];
            int from = key * VERSIONS_MOST;
            int i = cells[VERSIONS + key];
            if (!within(i, VERSIONS_MOST)) {
                return;
            }
            for (; i > 0 && cells[MARK + from + i - 1] > stamp; i--) {
                moveVersion(from + i - 1, from + i);
            }
            cells[MARK + from + i] = stamp;
            cells[VALUE + from + i] = value;
            cells[SEEN + from + i] = stamp;
            cells[OWNER + from + i] = seat;
            cells[VERSIONS + key]++;
        }

        private void moveVersion(int from, int to) {
            cells[MARK + to] = cells[MARK + from];
            cells[VALUE + to] = cells[VALUE + from];
            cells[SEEN + to] = cells[SEEN + from];
            cells[OWNER + to] = cells[OWNER + from];
        }

        // ---- to be SURE, to FALL ----

        private int commitAt(int seat) {
            if (cells[DOOMED + seat] != 0) {
                fallWithAll(seat);
                return LOST;
            }
            cells[STATE + seat] = WAITING;
            note(WAITS, seat, cells[STAMP + seat]);
            if (cells[DEPENDS + seat] != 0) {
                return Integer.bitCount(cells[DEPENDS + seat]);
            }
            int next = seat;
            for (int round = 0; round < SEATS && within(next, SEATS); round++) {
                if (cells[DOOMED + next] != 0) {
                    fallWithAll(next);
                } else {
                    makeSure(next);
                    if (cells[PRUNING] == 1) {
                        pruneAll();
                    }
                }
                next = lowestReady();
            }
            return 0;
        }

        private int lowestReady() {
            for (int seat = 0; seat < SEATS; seat++) {
                if (cells[STATE + seat] == WAITING && cells[DEPENDS + seat] == 0) {
                    return seat;
                }
            }
            return NONE;
        }

        private void makeSure(int seat) {
            cells[STATE + seat] = SURE;
            for (int slot = 0; slot < SLOTS; slot++) {
                if (cells[OWNER + slot] == seat) {
                    cells[OWNER + slot] = NONE;
                }
            }
            for (int other = 0; other < SEATS; other++) {
                cells[DEPENDS + other] &= ~(1 << seat);
            }
            note(IS_SURE, seat, cells[STAMP + seat]);
        }

        /** One FALLS, and all behind it: how many. */
        private int fallWithAll(int first) {
            int many = 0;
            int seat = first;
            for (int round = 0; round < SEATS && within(seat, SEATS); round++) {
                cells[STATE + seat] = FALLEN;
                cells[DEPENDS + seat] = 0;
                for (int key = 0; key < KEYS_MOST; key++) {
                    dropOwn(key, seat);
                }
                note(IS_FALLEN, seat, cells[STAMP + seat]);
                many++;
                seat = lowestLeaning();
            }
            cells[FELL] += many;
            return many;
        }

        private int lowestLeaning() {
            int fallen = seatsIn(FALLEN);
            for (int seat = 0; seat < SEATS; seat++) {
                if ((cells[DEPENDS + seat] & fallen) != 0) {
                    return seat;
                }
            }
            return NONE;
        }

        private void dropOwn(int key, int seat) {
            int slot = ownSlot(key, seat);
            if (!within(slot, SLOTS)) {
                return;
            }
            int last = key * VERSIONS_MOST + Math.min(cells[VERSIONS + key], VERSIONS_MOST) - 1;
            for (int i = slot; i < last; i++) {
                moveVersion(i + 1, i);
            }
            cells[VERSIONS + key]--;
        }

        /** The DEEDS that were are done again, as far as they can be: how many. */
        private int redoAll(int seat) {
            int deeds = cells[DEEDS + seat];
            enter(seat, cells[WAY + seat], ticked());
            cells[DEEDS + seat] = deeds;
            int done = 0;
            for (int i = 0; i < DEEDS_MOST && i < deeds; i++) {
                if (!redo(seat, i)) {
                    break;
                }
                done++;
            }
            return done;
        }

        private boolean redo(int seat, int i) {
            int key = deedPart(seat, i, 1);
            if (!hasKey(key)) {
                return false;
            }
            if (deedPart(seat, i, 0) == READ) {
                readKey(seat, key);
                return true;
            }
            return !isFull(seat, key) && writeKey(seat, key, deedPart(seat, i, 2)) != LOST;
        }

        private int pruneAll() {
            int oldest = oldestSeat();
            int floor = within(oldest, SEATS) ? cells[STAMP + oldest] : cells[CLOCK];
            cells[FLOOR] = Math.max(cells[FLOOR], floor);
            int gone = 0;
            for (int key = 0; key < KEYS_MOST; key++) {
                gone += pruneKey(key);
            }
            note(PRUNES, NONE, gone);
            return gone;
        }

        private int pruneKey(int key) {
            int from = key * VERSIONS_MOST;
            int many = Math.min(cells[VERSIONS + key], VERSIONS_MOST);
            int stays = lastSureSlot(key, cells[FLOOR]);
            int left = 0;
            for (int i = 0; i < many; i++) {
                boolean isOld = cells[OWNER + from + i] == NONE && from + i < stays;
                if (!isOld) {
                    moveVersion(from + i, from + left);
                    left++;
                }
            }
            cells[VERSIONS + key] = left;
            return many - left;
        }

        /** The VERSION that is sure with the greatest MARK not above a STAMP; NONE: there is none. */
        private int lastSureSlot(int key, int stamp) {
            int from = key * VERSIONS_MOST;
            for (int i = VERSIONS_MOST - 1; i >= 0; i--) {
                boolean isSure = i < cells[VERSIONS + key] && cells[OWNER + from + i] == NONE;
                if (isSure && cells[MARK + from + i] <= stamp) {
                    return from + i;
                }
            }
            return NONE;
        }

        private int sureValueAt(int key, int stamp) {
            int slot = lastSureSlot(key, stamp);
            return within(slot, SLOTS) ? cells[VALUE + slot] : NONE;
        }

        // ---- the LOG ----

        private void note(int sort, int seat, int number) {
            int place = cells[LOG_NEXT];
            if (!within(place, LOG_MOST)) {
                return;
            }
            cells[LOG + place] = sort | seat + 1 << 3 | number + 2 << 7;
            cells[LOG_NEXT] = place + 1 < LOG_MOST ? place + 1 : 0;
            cells[LOGGED] = Math.min(cells[LOGGED] + 1, LOG_MOST);
        }

        private int logLength() {
            return cells[LOGGED];
        }

        private int logPart(int i, int what) {
            int place = cells[LOG_NEXT] - 1 - i;
            if (place < 0) {
                place += LOG_MOST;
            }
            if (!within(place, LOG_MOST)) {
                return HIDDEN;
            }
            int entry = cells[LOG + place];
            if (what == 0) {
                return entry & 7;
            }
            return what == 1 ? (entry >> 3 & 15) - 1 : (entry >> 7) - 2;
        }

        // ---- what can be told without going on ----

        private int seatsIn(int state) {
            int seats = 0;
            for (int seat = 0; seat < SEATS; seat++) {
                if (cells[STATE + seat] == state) {
                    seats |= 1 << seat;
                }
            }
            return seats;
        }

        private int liveSeats() {
            return seatsIn(ACTIVE) | seatsIn(WAITING);
        }

        private int doomedSeats() {
            int seats = 0;
            for (int seat = 0; seat < SEATS; seat++) {
                if (isLive(seat) && cells[DOOMED + seat] != 0) {
                    seats |= 1 << seat;
                }
            }
            return seats;
        }

        private int unsureKeys() {
            int keys = 0;
            for (int key = 0; key < KEYS_MOST; key++) {
                for (int seat = 0; seat < SEATS; seat++) {
                    if (ownSlot(key, seat) != NONE) {
                        keys |= 1 << key;
                    }
                }
            }
            return keys;
        }

        private int oldestSeat() {
            int oldest = NONE;
            for (int seat = 0; seat < SEATS; seat++) {
                if (isLive(seat) && (oldest == NONE || cells[STAMP + seat] < cells[STAMP + oldest])) {
                    oldest = seat;
                }
            }
            return oldest;
        }

        private int fullestKey() {
            int fullest = 0;
            for (int key = 1; key < KEYS_MOST; key++) {
                if (cells[VERSIONS + key] > cells[VERSIONS + fullest]) {
                    fullest = key;
                }
            }
            return fullest;
        }

        private int worstSeat() {
            int worst = NONE;
            int most = 0;
            for (int seat = 0; seat < SEATS; seat++) {
                int many = isLive(seat) ? Integer.bitCount(fallingWith(seat)) : 0;
                if (many > most) {
                    worst = seat;
                    most = many;
                }
            }
            return worst;
        }

        /** The SEATS that FALL with one: all that lean on it, or on one that does. */
        private int fallingWith(int first) {
            int falling = 1 << first;
            for (int round = 0; round < SEATS; round++) {
                for (int seat = 0; seat < SEATS; seat++) {
                    if ((cells[DEPENDS + seat] & falling) != 0) {
                        falling |= 1 << seat;
                    }
                }
            }
            return falling;
        }

        /** Each round takes away those that wait for nobody left: as many rounds as the longest chain has. */
        private int longestChain() {
            int left = liveSeats();
            int rounds = 0;
            while (left != 0 && rounds < SEATS) {
                int free = 0;
                for (int seat = 0; seat < SEATS; seat++) {
                    if ((left >> seat & 1) == 1 && (cells[DEPENDS + seat] & left) == 0) {
                        free |= 1 << seat;
                    }
                }
                left &= ~free;
                rounds++;
            }
            return rounds;
        }

        /**
         * Who writes is LATE from a MARK up to below its SEEN; MARKS rise, so one sweep finds the gaps:
         * the least STAMP in one (0), how many STAMPS they have (1).
         */
        private int timely(int key, int what) {
            int least = NONE;
            int many = 0;
            int next = 1;
            int from = key * VERSIONS_MOST;
            for (int i = 0; i < VERSIONS_MOST && i < cells[VERSIONS + key]; i++) {
                int mark = cells[MARK + from + i];
                if (mark > next) {
                    least = least == NONE ? next : least;
                    many += mark - next;
                    next = mark;
                }
                next = Math.max(next, cells[SEEN + from + i]);
            }
            least = least == NONE ? next : least;
            many += cells[CLOCK] + 1 - next + 1;
            return what == 0 ? least : many;
        }
    }

    /** The states ahead of the latest ACTS. */
    private static final class Past {
        private static final int MOST = 40;

        private final World[] states = new World[MOST];
        private int next;
        private int size;

        private void forget() {
            size = 0;
        }

        private void keep(World now) {
            if (!within(next, MOST)) {
                return;
            }
            if (states[next] == null) {
                states[next] = new World();
            }
            states[next].become(now);
            next = next + 1 < MOST ? next + 1 : 0;
            size = Math.min(size + 1, MOST);
        }

        private int bringBack(World now) {
            if (size <= 0) {
                return NONE;
            }
            int latest = next > 0 ? next - 1 : MOST - 1;
            if (!within(latest, MOST) || states[latest] == null) {
                return NONE;
            }
            now.become(states[latest]);
            next = latest;
            size--;
            return size;
        }
    }

    /** What would be, tried on copies. */
    private static final class Apart {
        private static final int DEEPEST = 2 * MIXED_STEPS_MOST;
        private static final int RETRIES_MOST = 9;
        private static final long WHOLE = 1000000000L;

        // Made when first needed: most objects never need all of them.
        private final World[] levels = new World[DEEPEST + 1];
        private int rows;
        private int firstRow;
        private int target;
        private int chance;
        private int drawn;

        private World level(int depth) {
            int i = Math.max(0, Math.min(depth, DEEPEST));
            if (levels[i] == null) {
                levels[i] = new World();
            }
            return levels[i];
        }

        private World copyOf(World now) {
            World copy = level(0);
            copy.become(now);
            return copy;
        }

        private int spareOf(World now) {
            return copyOf(now).pruneAll();
        }

        private int sureBy(World now, int seat) {
            World copy = copyOf(now);
            copy.commitAt(seat);
            return copy.seatsIn(SURE) & ~now.seatsIn(SURE);
        }

        private int retriesOf(World now, int seat) {
            World copy = copyOf(now);
            for (int i = 1; i <= RETRIES_MOST; i++) {
                if (copy.refusal(RETRY, seat, NONE, NONE) != NONE) {
                    return NONE;
                }
                copy.redoAll(seat);
                if (copy.stateOf(seat) == ACTIVE) {
                    copy.commitAt(seat);
                }
                if (copy.stateOf(seat) != FALLEN) {
                    return i;
                }
            }
            return NONE;
        }

        private int stepsDone(World now, Script told) {
            World copy = copyOf(now);
            int done = 0;
            for (int i = 0; i < told.length; i++) {
                if (!goOn(copy, copy, told, i)) {
                    break;
                }
                done++;
            }
            return done;
        }

        private int sureBehind() {
            return level(0).seatsIn(SURE);
        }

        /** The next world is as this one behind one STEP more; false: it can't be. */
        private static boolean goOn(World here, World next, Script told, int i) {
            int kind = told.part(i, 0);
            int seat = told.part(i, 1);
            int second = told.part(i, 2);
            int third = told.part(i, 3);
            if (here.refusal(kind, seat, second, third) != NONE) {
                return false;
            }
            if (next != here) {
                next.become(here);
            }
            next.act(kind, seat, second, third);
            return true;
        }

        // ---- MIX ----

        private void beginMix(World now) {
            rows = 0;
            firstRow = NONE;
            copyOf(now).cells[World.FELL] = 0;
        }

        private int goodRows() {
            return rows;
        }

        private int firstGoodRow() {
            return firstRow;
        }

        /** All rows that go on behind as many STEPS of both; level i is how it is behind i STEPS of the row. */
        private void mixFrom(Script one, Script other, int ofOne, int ofOther, int row) {
            int depth = ofOne + ofOther;
            if (ofOne >= one.length && ofOther >= other.length) {
                rows++;
                firstRow = firstRow == NONE ? row : Math.min(firstRow, row);
                return;
            }
            if (depth >= DEEPEST) {
                return;
            }
            World here = level(depth);
            World next = level(depth + 1);
            if (ofOne < one.length && goOn(here, next, one, ofOne) && next.cells[World.FELL] == 0) {
                mixFrom(one, other, ofOne + 1, ofOther, row);
            }
            if (ofOther < other.length && goOn(here, next, other, ofOther) && next.cells[World.FELL] == 0) {
                mixFrom(one, other, ofOne, ofOther + 1, row | 1 << depth);
            }
        }

        // ---- ODDS ----

        private int oddsOf(World now, int seat, int hundredths) {
            target = seat;
            chance = hundredths;
            drawn = now.liveSeats();
            copyOf(now);
            return (int) partsFrom(0, 0, WHOLE);
        }

        /** Of these parts those by which the target is SURE, if the SEATS from turn on are still to be drawn. */
        private long partsFrom(int depth, int turn, long parts) {
            if (parts == 0 || depth > SEATS) {
                return 0;
            }
            World copy = level(depth);
            int seat = nextDrawn(turn);
            if (seat >= SEATS) {
                commitAll(copy);
                return copy.stateOf(target) == SURE ? parts : 0;
            }
            long aborting = parts * chance / 100;
            World without = level(depth + 1);
            without.become(copy);
            if (without.isLive(seat)) {
                without.fallWithAll(seat);
            }
            long sure = partsFrom(depth + 1, seat + 1, aborting);
            return sure + partsFrom(depth, seat + 1, parts - aborting);
        }

        private int nextDrawn(int turn) {
            int seat = turn;
            while (seat < SEATS && (drawn >> seat & 1) == 0) {
                seat++;
            }
            return seat;
        }

        private static void commitAll(World copy) {
            for (int seat = 0; seat < SEATS; seat++) {
                if (copy.stateOf(seat) == ACTIVE) {
                    copy.commitAt(seat);
                }
            }
        }
    }

    /** The draws of YEARS. */
    private static final class Draws {
        private static final long FACTOR = 6364136223846793005L;
        private static final long SUMMAND = 1442695040888963407L;

        private long x;

        private void begin(long seed) {
            x = seed;
        }

        private int next(int bound) {
            x = x * FACTOR + SUMMAND;
            return bound > 0 ? (int) ((x >>> 33) % bound) : 0;
        }
    }
}
