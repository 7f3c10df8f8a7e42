import java.util.ArrayList;
import java.util.Arrays;
import java.util.Collections;
import java.util.List;
import java.util.NoSuchElementException;
import java.util.TreeMap;

/**
 * The document written down a second time, as plainly as can be and without care for speed or room:
 * ModelTest holds the class against it. It shares no code with the class.
 */
public final class PlainModel {
    static final int NONE = -1;
    static final int HIDDEN = -1000000;

    static final class Version {
        int mark, value, seen, seat = NONE;
        Version copy() {
            Version v = new Version();
            v.mark = mark; v.value = value; v.seen = seen; v.seat = seat;
            return v;
        }
    }

    static final class Transaction {
        int stamp, way, state = 1;
        boolean doomed;
        java.util.TreeSet<Integer> depends = new java.util.TreeSet<>();
        TreeMap<Integer, Integer> read = new TreeMap<>();
        List<int[]> deeds = new ArrayList<>();
        boolean live() { return state == 1 || state == 2; }
        Transaction copy() {
            Transaction t = new Transaction();
            t.stamp = stamp; t.way = way; t.state = state; t.doomed = doomed;
            t.depends.addAll(depends); t.read.putAll(read); t.deeds.addAll(deeds);
            return t;
        }
    }

    static final class State {
        int clock, floor;
        Transaction[] at = new Transaction[8];
        List<TreeMap<Integer, Version>> keys = new ArrayList<>();
        List<Integer> hands = new ArrayList<>();
        List<int[]> log = new ArrayList<>();
        int fell;
        State copy() {
            State s = new State();
            s.clock = clock; s.floor = floor; s.fell = fell;
            for (int i = 0; i < 8; i++) s.at[i] = at[i] == null ? null : at[i].copy();
            for (TreeMap<Integer, Version> k : keys) {
                TreeMap<Integer, Version> m = new TreeMap<>();
                for (Version v : k.values()) m.put(v.mark, v.copy());
                s.keys.add(m);
            }
            s.hands.addAll(hands); s.log.addAll(log);
            return s;
        }
    }

    private String tape = "";
    private int most, pruning, stride;
    private State now;
    private State image;
    private final List<List<int[]>> scripts = new ArrayList<>();
    private final List<State> past = new ArrayList<>();
    private final int[] status = new int[4];

    // ---- texts ----

    public int feed(int a, int b, int c, int d, int e) {
        StringBuilder more = new StringBuilder(tape);
        for (int word : new int[] {a, b, c, d, e}) {
            for (byte part : java.nio.ByteBuffer.allocate(4).putInt(word).array()) {
                if (part != 0) more.append((char) (part & 255));
            }
        }
        if (more.length() > 240) return NONE;
        tape = more.toString();
        return tape.length();
    }

    public boolean end(int n) {
        if (n < 0 || n > tape.length()) return false;
        tape = tape.substring(0, n);
        return true;
    }

    private static final class Wrong extends RuntimeException {
        final int at;
        Wrong(int at) { this.at = at; }
    }

    /** Signs with their places; a run of digits that is a number is taken by its place in the text. */
    private int at;
    private int sign() {
        while (at < tape.length() && tape.charAt(at) == ' ') at++;
        return at < tape.length() ? tape.charAt(at) : -1;
    }
    private int digit() {
        int c = sign();
        if (c < '0' || c > '9') throw new Wrong(at);
        at++;
        return c - '0';
    }
    private int number(int least, int most) {
        int c = sign();
        int from = at;
        while (at < tape.length() && "0123456789".indexOf(tape.charAt(at)) >= 0) at++;
        if (at == from) throw new Wrong(from);
        if (at - from > 2) throw new Wrong(from + 2);
        int n = Integer.parseInt(tape.substring(from, at));
        if (n < least || n > most) throw new Wrong(at - 1);
        return n;
    }

    private int[] toldRules;
    private List<Integer> toldValues;

    private void tellStore() {
        at = 0;
        toldRules = new int[] {6, 0, 10};
        toldValues = new ArrayList<>();
        boolean rules = false;
        while (true) {
            int c = sign();
            String letters;
            if (c == 's' && !rules) { rules = true; letters = "mpt"; }
            else if (c == 'k' && toldValues.size() < 6) { toldValues.add(0); letters = "v"; }
            else throw new Wrong(at);
            at++;
            String used = "";
            while (sign() >= 0 && letters.indexOf(sign()) >= 0) {
                char letter = (char) sign();
                if (used.indexOf(letter) >= 0) throw new Wrong(at);
                used += letter;
                at++;
                if (letter == 'm') toldRules[0] = number(2, 9);
                if (letter == 'p') toldRules[1] = number(0, 1);
                if (letter == 't') toldRules[2] = number(2, 20);
                if (letter == 'v') toldValues.set(toldValues.size() - 1, number(0, 99));
            }
            if (sign() == -1) {
                if (toldValues.isEmpty()) throw new Wrong(tape.length());
                return;
            }
            if (sign() != ';') throw new Wrong(at);
            at++;
        }
    }

    private List<int[]> tellScript() {
        at = 0;
        List<int[]> steps = new ArrayList<>();
        while (true) {
            int kind = sign() < 0 ? -1 : "orwcap".indexOf(sign());
            if (kind < 0) throw new Wrong(at);
            at++;
            int[] step = {kind, NONE, NONE, NONE};
            if (kind != 5) step[1] = digit();
            if (kind < 3) step[2] = digit();
            if (kind == 2) {
                if (sign() != ':') throw new Wrong(at);
                at++;
                step[3] = number(0, 99);
            }
            steps.add(step);
            if (sign() == -1) return steps;
            if (sign() != ';' || steps.size() == 16) throw new Wrong(at);
            at++;
        }
    }

    public int fault(int sort) {
        if (sort != 0 && sort != 1) return -2;
        try {
            if (sort == 0) tellStore(); else tellScript();
            return NONE;
        } catch (Wrong wrong) {
            return wrong.at;
        }
    }

    public int text(int sort) {
        if (sort != 0 && sort != 1 || fault(sort) != NONE) return NONE;
        if (sort == 1) {
            if (scripts.size() == 4) return NONE;
            scripts.add(tellScript());
            tape = "";
            return scripts.size() - 1;
        }
        tellStore();
        tape = "";
        most = toldRules[0]; pruning = toldRules[1]; stride = toldRules[2];
        now = new State();
        for (int value : toldValues) {
            TreeMap<Integer, Version> key = new TreeMap<>();
            Version first = new Version();
            first.value = value;
            key.put(0, first);
            now.keys.add(key);
        }
        image = null;
        past.clear();
        return now.keys.size();
    }

    // ---- what there is ----

    private boolean noKey(int key) { return now == null || key < 0 || key >= now.keys.size(); }
    private boolean noSeat(int seat) { return seat < 0 || seat > 7; }
    private Transaction at(State s, int seat) { return s == null || noSeat(seat) ? null : s.at[seat]; }
    private static int bit(int seat) { return (int) Math.pow(2, seat); }

    public int rule(int what) {
        if (now == null) return NONE;
        if (what == 0) return most;
        if (what == 1) return pruning;
        return what == 2 ? stride : NONE;
    }

    public int seat(int seat, int what) {
        if (now == null || noSeat(seat) || what < 0 || what > 4) throw new NoSuchElementException();
        Transaction t = now.at[seat];
        if (t == null) {
            if (what == 0) return 0;
            throw new NoSuchElementException();
        }
        if (what == 0) return t.state;
        if (what == 1) return t.stamp;
        if (what == 2) return t.way;
        if (what == 4) return t.doomed ? 1 : 0;
        int bits = 0;
        for (int s : t.depends) bits += bit(s);
        return bits;
    }

    public int readBy(int seat, int key) {
        Transaction t = at(now, seat);
        return t == null || noKey(key) ? NONE : t.read.getOrDefault(key, NONE);
    }

    public int deed(int seat, int i, int what) {
        Transaction t = at(now, seat);
        if (t == null || i < 0 || i >= t.deeds.size() || what < 0 || what > 2) return HIDDEN;
        return t.deeds.get(i)[what];
    }

    public int versions(int key) { return noKey(key) ? NONE : now.keys.get(key).size(); }

    public int version(int key, int i, int what) {
        if (noKey(key) || i < 0 || i >= now.keys.get(key).size()) return HIDDEN;
        Version v = new ArrayList<>(now.keys.get(key).values()).get(i);
        switch (what) {
            case 0: return v.mark;
            case 1: return v.value;
            case 2: return v.seen;
            case 3: return v.seat;
            default: return HIDDEN;
        }
    }

    // ---- the store goes on ----

    private void log(State s, int sort, int seat, int number) {
        s.log.add(new int[] {sort, seat, number});
        if (s.log.size() > 60) s.log.remove(0);
    }

    private void opens(State s, int seat, int way, int stamp) {
        s.at[seat] = new Transaction();
        s.at[seat].stamp = stamp;
        s.at[seat].way = way;
        log(s, 0, seat, stamp);
    }

    private Version toRead(State s, int seat, int key) {
        Transaction t = s.at[seat];
        Version own = s.keys.get(key).get(t.stamp);
        if (own != null) return own;
        Version best = null;
        for (Version v : s.keys.get(key).values()) {
            if (v.mark <= t.stamp && (t.way == 1 || v.seat == NONE)) best = v;
        }
        return best;
    }

    private int reads(State s, int seat, int key) {
        Transaction t = s.at[seat];
        Version v = toRead(s, seat, key);
        if (v.mark != t.stamp) {
            if (v.seen < t.stamp) v.seen = t.stamp;
            t.read.put(key, v.mark);
            if (t.way == 0) {
                for (Version w : s.keys.get(key).values()) {
                    if (w.seat != NONE && w.mark > v.mark && w.mark < t.stamp) s.at[w.seat].doomed = true;
                }
            } else if (v.seat != NONE) {
                t.depends.add(v.seat);
            }
        }
        log(s, 1, seat, v.mark);
        return v.value;
    }

    private boolean late(State s, int key, int stamp) {
        for (Version v : s.keys.get(key).values()) if (v.mark <= stamp && v.seen > stamp) return true;
        return false;
    }

    private boolean tooMany(State s, int seat, int key) {
        TreeMap<Integer, Version> k = s.keys.get(key);
        int stamp = s.at[seat].stamp;
        return !late(s, key, stamp) && !k.containsKey(stamp) && k.size() == most;
    }

    private int writes(State s, int seat, int key, int value) {
        int stamp = s.at[seat].stamp;
        if (late(s, key, stamp)) {
            log(s, 2, seat, -2);
            fall(s, seat);
            return -2;
        }
        Version own = s.keys.get(key).get(stamp);
        int more = own == null ? 1 : 0;
        if (own == null) {
            own = new Version();
            own.mark = stamp; own.seen = stamp; own.seat = seat;
            s.keys.get(key).put(stamp, own);
        }
        own.value = value;
        log(s, 2, seat, more);
        return more;
    }

    private int fall(State s, int seat) {
        s.fell++;
        s.at[seat].state = 4;
        s.at[seat].depends.clear();
        for (TreeMap<Integer, Version> k : s.keys) k.values().removeIf(v -> v.seat == seat);
        log(s, 5, seat, s.at[seat].stamp);
        int many = 1;
        for (int i = 0; i < 8; i++) {
            Transaction t = s.at[i];
            if (t == null) continue;
            boolean leans = false;
            for (int d : t.depends) if (s.at[d].state == 4) leans = true;
            if (leans) return many + fall(s, i);
        }
        return many;
    }

    private void sure(State s, int seat) {
        s.at[seat].state = 3;
        for (TreeMap<Integer, Version> k : s.keys) for (Version v : k.values()) if (v.seat == seat) v.seat = NONE;
        for (Transaction t : s.at) if (t != null) t.depends.remove(seat);
        log(s, 4, seat, s.at[seat].stamp);
        if (pruning == 1) prunes(s);
        next(s);
    }

    private void next(State s) {
        for (int i = 0; i < 8; i++) {
            Transaction t = s.at[i];
            if (t != null && t.state == 2 && t.depends.isEmpty()) {
                if (t.doomed) { fall(s, i); next(s); } else sure(s, i);
                return;
            }
        }
    }

    private int commits(State s, int seat) {
        Transaction t = s.at[seat];
        if (t.doomed) { fall(s, seat); return -2; }
        t.state = 2;
        log(s, 3, seat, t.stamp);
        int on = t.depends.size();
        if (on == 0) sure(s, seat);
        return on;
    }

    private int prunes(State s) {
        int least = s.clock;
        for (Transaction t : s.at) if (t != null && t.live()) least = Math.min(least, t.stamp);
        if (least > s.floor) s.floor = least;
        int gone = 0;
        for (TreeMap<Integer, Version> k : s.keys) {
            List<Integer> old = new ArrayList<>();
            for (Version v : k.values()) if (v.seat == NONE && v.mark <= s.floor) old.add(v.mark);
            if (!old.isEmpty()) old.remove(Collections.max(old));
            gone += old.size();
            k.keySet().removeAll(old);
        }
        log(s, 6, NONE, gone);
        return gone;
    }

    private int retries(State s, int seat) {
        Transaction was = s.at[seat];
        s.clock += stride;
        opens(s, seat, was.way, s.clock);
        s.at[seat].deeds.addAll(was.deeds);
        int done = 0;
        for (int[] deed : was.deeds) {
            if (deed[0] == 1) {
                reads(s, seat, deed[1]);
            } else {
                if (tooMany(s, seat, deed[1])) break;
                if (writes(s, seat, deed[1], deed[2]) == -2) break;
            }
            done++;
        }
        return done;
    }

    /** Kinds as STEPS are told; 6 by hand, 7 RETRY. The STATUS number of what can't be, or NONE. */
    private int cannot(State s, int kind, int seat, int b, int c) {
        if (s == null) return 0;
        if (kind == 5) return NONE;
        if (noSeat(seat)) return 0;
        Transaction t = s.at[seat];
        if (kind == 0 || kind == 6) {
            if (b < 0 || b > 1) return 1;
            if (t != null && t.live()) return 2;
            if (kind == 0) return s.clock + stride > 9999 ? 3 : NONE;
            if (c <= s.floor || c >= s.clock || c % stride == 0 || s.hands.contains(c)) return 2;
            return s.hands.size() == 30 ? 3 : NONE;
        }
        if ((kind == 1 || kind == 2) && (b < 0 || b >= s.keys.size())) return 0;
        if (t == null) return 0;
        if (kind == 2 && (c < 0 || c > 99)) return 1;
        if (kind == 4) return t.live() ? NONE : 2;
        if (kind == 7) return t.state != 4 ? 2 : s.clock + stride > 9999 ? 3 : NONE;
        if (t.state != 1) return 2;
        return kind == 2 && tooMany(s, seat, b) ? 3 : NONE;
    }

    private int act(State s, int kind, int seat, int b, int c) {
        switch (kind) {
            case 0: s.clock += stride; opens(s, seat, b, s.clock); return s.clock;
            case 6: s.hands.add(c); opens(s, seat, b, c); return c;
            case 1:
                if (s.at[seat].deeds.size() < 12) s.at[seat].deeds.add(new int[] {1, b, NONE});
                return reads(s, seat, b);
            case 2:
                if (s.at[seat].deeds.size() < 12) s.at[seat].deeds.add(new int[] {2, b, c});
                return writes(s, seat, b, c);
            case 3: return commits(s, seat);
            case 4: return fall(s, seat);
            case 7: return retries(s, seat);
            default: return prunes(s);
        }
    }

    private int hand(int kind, int seat, int b, int c) {
        int why = cannot(now, kind, seat, b, c);
        if (why != NONE) { status[why]++; return NONE; }
        keep();
        return act(now, kind, seat, b, c);
    }

    private void keep() {
        past.add(now.copy());
        if (past.size() > 40) past.remove(0);
    }

    private boolean quiet(int kind, int seat, int b, int c) {
        if (cannot(now, kind, seat, b, c) != NONE) return false;
        keep();
        act(now, kind, seat, b, c);
        return true;
    }

    public int open(int seat, int way) { return hand(0, seat, way, 0); }
    public int openAt(int seat, int way, int stamp) { return hand(6, seat, way, stamp); }
    public int read(int seat, int key) { return hand(1, seat, key, 0); }
    public int write(int seat, int key, int value) { return hand(2, seat, key, value); }
    public int commit(int seat) { return hand(3, seat, 0, 0); }
    public int abort(int seat) { return hand(4, seat, 0, 0); }
    public int retry(int seat) { return hand(7, seat, 0, 0); }
    public int prune() { return hand(5, 0, 0, 0); }

    private java.math.BigInteger x;
    private int draw(int j) {
        java.math.BigInteger turn = java.math.BigInteger.ONE.shiftLeft(64);
        x = x.multiply(new java.math.BigInteger("6364136223846793005"))
            .add(new java.math.BigInteger("1442695040888963407")).mod(turn);
        return x.shiftRight(33).mod(java.math.BigInteger.valueOf(j)).intValue();
    }

    public int years(int n, long seed) {
        if (now == null || n < 1 || n > 40) return NONE;
        x = java.math.BigInteger.valueOf(seed).mod(java.math.BigInteger.ONE.shiftLeft(64));
        int keys = now.keys.size();
        for (int i = 0; i < n; i++) {
            int a, b, c;
            switch (draw(8)) {
                case 0: a = draw(8); b = draw(2); quiet(0, a, b, 0); break;
                case 1: case 2: a = draw(8); b = draw(keys); quiet(1, a, b, 0); break;
                case 3: case 4: a = draw(8); b = draw(keys); c = draw(100); quiet(2, a, b, c); break;
                case 5: case 6: a = draw(8); quiet(3, a, 0, 0); break;
                default: a = draw(8); quiet(4, a, 0, 0); break;
            }
        }
        return now.clock;
    }

    public int status(int what) { return what < 0 || what > 3 ? NONE : status[what]; }

    public int undo() {
        if (past.isEmpty()) return NONE;
        now = past.remove(past.size() - 1);
        return past.size();
    }

    public int log(int i, int what) {
        if (now == null || i < 0 || i >= now.log.size() || what < 0 || what > 2) return HIDDEN;
        return now.log.get(now.log.size() - 1 - i)[what];
    }

    // ---- apart ----

    public int would(int seat, int key, int what) {
        Transaction t = at(now, seat);
        if (t == null || t.state != 1 || noKey(key) || what < 0 || what > 1) return NONE;
        if (what == 0) return toRead(now, seat, key).mark;
        return late(now, key, t.stamp) ? 1 : 0;
    }

    public int since(int key, int what) {
        if (noKey(key) || what < 0 || what > 1) return NONE;
        List<Integer> free = new ArrayList<>();
        for (int stamp = 1; stamp <= now.clock + 1; stamp++) if (!late(now, key, stamp)) free.add(stamp);
        return what == 0 ? free.get(0) : free.size();
    }

    private static int inState(State s, int state) {
        int bits = 0;
        for (int i = 0; i < 8; i++) if (s.at[i] != null && s.at[i].state == state) bits += bit(i);
        return bits;
    }

    public int falls(int seat) {
        Transaction t = at(now, seat);
        if (t == null || !t.live()) return NONE;
        State s = now.copy();
        fall(s, seat);
        return inState(s, 4) & ~inState(now, 4);
    }

    public int sures(int seat) {
        Transaction t = at(now, seat);
        if (t == null || t.state != 1) return NONE;
        State s = now.copy();
        commits(s, seat);
        return inState(s, 3) & ~inState(now, 3);
    }

    public int retries(int seat) {
        Transaction t = at(now, seat);
        if (t == null || t.state != 4) return NONE;
        State s = now.copy();
        for (int i = 1; i < 10; i++) {
            if (s.clock + stride > 9999) return NONE;
            retries(s, seat);
            if (s.at[seat].state == 1) commits(s, seat);
            if (s.at[seat].state != 4) return i;
        }
        return NONE;
    }

    public int asOf(int key, int stamp) {
        if (noKey(key) || stamp < 0 || stamp < now.floor) return NONE;
        int value = NONE;
        for (Version v : now.keys.get(key).values()) if (v.seat == NONE && v.mark <= stamp) value = v.value;
        return value;
    }

    private List<int[]> script(int i) { return i < 0 || i >= scripts.size() ? null : scripts.get(i); }

    public int step(int script, int i, int what) {
        List<int[]> steps = script(script);
        if (steps == null || i < 0 || i >= steps.size() || what < 0 || what > 3) return HIDDEN;
        return steps.get(i)[what];
    }

    private boolean can(State s, int[] step) {
        if (cannot(s, step[0], step[1], step[2], step[3]) != NONE) return false;
        act(s, step[0], step[1], step[2], step[3]);
        return true;
    }

    public int run(int script, int what) {
        List<int[]> steps = script(script);
        if (steps == null || now == null || what < 0 || what > 1) return HIDDEN;
        State s = now.copy();
        int first = NONE;
        for (int i = 0; i < steps.size() && first == NONE; i++) if (!can(s, steps.get(i))) first = i;
        return what == 0 ? first : Integer.bitCount(inState(s, 3));
    }

    public int perform(int script) {
        List<int[]> steps = script(script);
        if (steps == null || now == null) return NONE;
        int done = 0;
        for (int[] step : steps) {
            if (!quiet(step[0], step[1], step[2], step[3])) return done;
            done++;
        }
        return done;
    }

    public int mix(int one, int other, int what) {
        List<int[]> a = script(one), b = script(other);
        if (now == null || a == null || b == null || a.size() > 6 || b.size() > 6) return HIDDEN;
        int length = a.size() + b.size(), rows = 0, good = 0, first = NONE;
        for (int row = 0; row < bit(length); row++) {
            if (Integer.bitCount(row) != b.size()) continue;
            rows++;
            State s = now.copy();
            s.fell = 0;
            boolean all = true;
            int i = 0, j = 0;
            for (int k = 0; k < length && all; k++) all = can(s, (row >> k) % 2 == 1 ? b.get(j++) : a.get(i++));
            if (all && s.fell == 0) {
                good++;
                if (first == NONE) first = row;
            }
        }
        if (what == 0) return rows;
        if (what == 1) return good;
        return what == 2 ? first : HIDDEN;
    }

    public int odds(int seat, int chance) {
        if (now == null || noSeat(seat) || chance < 0 || chance > 100) return NONE;
        List<Integer> live = new ArrayList<>();
        for (int i = 0; i < 8; i++) if (now.at[i] != null && now.at[i].live()) live.add(i);
        long sum = 0;
        for (int way = 0; way < bit(live.size()); way++) {
            long parts = 1000000000L;
            State s = now.copy();
            for (int i = 0; i < live.size(); i++) {
                long cut = parts * chance / 100;
                if ((way >> i) % 2 == 1) {
                    parts = cut;
                    if (s.at[live.get(i)].live()) fall(s, live.get(i));
                } else {
                    parts -= cut;
                }
            }
            for (int i = 0; i < 8; i++) if (s.at[i] != null && s.at[i].state == 1) commits(s, i);
            if (s.at[seat] != null && s.at[seat].state == 3) sum += parts;
        }
        return (int) sum;
    }

    public int shares(int key, int c) {
        return noKey(key) || c < 0 || c > 999 ? NONE : c * versions(key) / all(13);
    }

    private int chain(int seat) {
        int best = 0;
        for (int d : now.at[seat].depends) best = Math.max(best, chain(d));
        return best + 1;
    }

    public int all(int what) {
        if (now == null) return HIDDEN;
        int doomed = 0, unsure = 0, oldest = NONE, fullest = 0, worst = NONE, chain = 0, sum = 0;
        for (int i = 0; i < 8; i++) {
            Transaction t = now.at[i];
            if (t == null || !t.live()) continue;
            if (t.doomed) doomed += bit(i);
            if (oldest == NONE || t.stamp < now.at[oldest].stamp) oldest = i;
            if (worst == NONE || Integer.bitCount(falls(i)) > Integer.bitCount(falls(worst))) worst = i;
            chain = Math.max(chain, chain(i));
        }
        for (int k = 0; k < now.keys.size(); k++) {
            boolean open = false;
            for (Version v : now.keys.get(k).values()) open |= v.seat != NONE;
            if (open) unsure += bit(k);
            if (versions(k) > versions(fullest)) fullest = k;
            sum += versions(k);
        }
        switch (what) {
            case 0: case 1: case 2: case 3: return inState(now, what + 1);
            case 4: return doomed;
            case 5: return unsure;
            case 6: return oldest;
            case 7: return fullest;
            case 8: return worst;
            case 9: return chain;
            case 10: return prunes(now.copy());
            case 11: return now.clock;
            case 12: return now.floor;
            case 13: return sum;
            default: return HIDDEN;
        }
    }

    public int image() {
        if (now == null) return NONE;
        image = now.copy();
        return now.clock;
    }

    public int back() {
        if (image == null) return NONE;
        now = image.copy();
        past.clear();
        return now.clock;
    }

    public int count(int what) {
        switch (what) {
            case 0: return now == null ? 0 : now.keys.size();
            case 1: return scripts.size();
            case 2: return tape.length();
            case 3: return now == null ? 0 : now.hands.size();
            case 4: return now == null ? 0 : now.log.size();
            case 5: return past.size();
            default: return HIDDEN;
        }
    }
}
