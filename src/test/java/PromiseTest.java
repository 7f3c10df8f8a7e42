import java.util.NoSuchElementException;

/** For each promise of the document what it says: ordinary inputs, the edges, wrong inputs. */
public final class PromiseTest {
    private static final int NONE = LateStamps.NONE;
    private static final int HIDDEN = LateStamps.HIDDEN;
    private static int wrong = 0;
    private static int promise = 0;

    public static void main(String[] args) {
        promise = 1; newObject();
        promise = 2; feed();
        promise = 3; end();
        promise = 4; faultOfStore(); faultOfScript();
        promise = 5; text();
        promise = 6; rule();
        promise = 7; seat();
        promise = 8; readBy();
        promise = 9; deed();
        promise = 10; versions();
        promise = 11; version();
        promise = 12; open(); openAtTheClocksEnd();
        promise = 13; openAt(); thirtyByHand();
        promise = 14; read(); readDooms();
        promise = 15; write(); writeTooMany();
        promise = 16; commit(); commitOfDoomed(); commitReleases();
        promise = 17; abort();
        promise = 18; retry(); retryStops();
        promise = 19; prune();
        promise = 20; years();
        promise = 21; status();
        promise = 22; undo();
        promise = 23; log();
        promise = 24; would();
        promise = 25; since();
        promise = 26; falls();
        promise = 27; sures();
        promise = 28; retries();
        promise = 29; asOf();
        promise = 30; step();
        promise = 31; run();
        promise = 32; perform();
        promise = 33; mix();
        promise = 34; odds();
        promise = 35; shares();
        promise = 36; all();
        promise = 37; image();
        promise = 38; back();
        promise = 39; count();
        System.out.println(wrong == 0 ? "all promises are kept" : wrong + " answers are not as due");
        if (wrong != 0) System.exit(1);
    }

    private static void due(String call, long got, long want) {
        if (got != want) {
            wrong++;
            System.out.println("promise " + promise + ": " + call + " answered " + got + ", due is " + want);
        }
    }

    private static void due(String call, boolean got, boolean want) {
        due(call, got ? 1 : 0, want ? 1 : 0);
    }

    // ---- helpers ----

    private static int feed(LateStamps x, String text) {
        int length = x.count(2);
        for (int from = 0; from < text.length(); from += 20) {
            int[] words = new int[5];
            for (int i = 0; i < 20 && from + i < text.length(); i++) {
                words[i / 4] |= (text.charAt(from + i) & 255) << 24 - i % 4 * 8;
            }
            length = x.feed(words[0], words[1], words[2], words[3], words[4]);
        }
        return length;
    }

    private static LateStamps store(String text) {
        LateStamps x = new LateStamps();
        tell(x, text, 0);
        return x;
    }

    private static int tell(LateStamps x, String text, int sort) {
        x.end(0);
        feed(x, text);
        int answer = x.text(sort);
        if (answer < 0) {
            wrong++;
            System.out.println("promise " + promise + ": " + text + " was not taken");
        }
        return answer;
    }

    private static void fault(int sort, String text, int want) {
        LateStamps x = new LateStamps();
        feed(x, text);
        due("fault(" + sort + ") of '" + text + "'", x.fault(sort), want);
        due("count(2) behind a fault", x.count(2), text.length());
    }

    private static void thrown(LateStamps x, int seat, int what) {
        boolean thrown = false;
        try {
            x.seat(seat, what);
        } catch (NoSuchElementException e) {
            thrown = true;
        }
        due("seat(" + seat + ", " + what + ") throws", thrown, true);
    }

    private static void logIs(LateStamps x, int i, int sort, int seat, int number) {
        due("log(" + i + ", 0)", x.log(i, 0), sort);
        due("log(" + i + ", 1)", x.log(i, 1), seat);
        due("log(" + i + ", 2)", x.log(i, 2), number);
    }

    private static void versionIs(LateStamps x, int key, int i, int mark, int value, int seen, int seat) {
        due("version(" + key + ", " + i + ", 0)", x.version(key, i, 0), mark);
        due("version(" + key + ", " + i + ", 1)", x.version(key, i, 1), value);
        due("version(" + key + ", " + i + ", 2)", x.version(key, i, 2), seen);
        due("version(" + key + ", " + i + ", 3)", x.version(key, i, 3), seat);
    }

    private static void statusIs(LateStamps x, int zero, int one, int two, int three) {
        due("status(0)", x.status(0), zero);
        due("status(1)", x.status(1), one);
        due("status(2)", x.status(2), two);
        due("status(3)", x.status(3), three);
    }

    // ---- the promises ----

    private static void newObject() {
        LateStamps x = new LateStamps();
        due("NONE", NONE, -1);
        due("HIDDEN", HIDDEN, -1000000);
        for (int what = 0; what < 6; what++) due("count", x.count(what), 0);
        for (int what = 0; what < 14; what++) due("all", x.all(what), HIDDEN);
        due("rule(0)", x.rule(0), NONE);
        thrown(x, 0, 0);
        due("asOf", x.asOf(0, 0), NONE);
        due("shares", x.shares(0, 1), NONE);
        due("sures", x.sures(0), NONE);
        due("retries", x.retries(0), NONE);
        due("deed", x.deed(0, 0, 0), HIDDEN);
        due("readBy", x.readBy(0, 0), NONE);
        due("version", x.version(0, 0, 0), HIDDEN);
        statusIs(x, 0, 0, 0, 0);
    }

    private static void feed() {
        LateStamps x = new LateStamps();
        due("feed of zeros", x.feed(0, 0, 0, 0, 0), 0);
        due("feed skips zeros", x.feed(0x73003B00, 0, 0x6B000000, 0x00000020, 0), 4);
        due("fault", x.fault(0), NONE);
        due("the highest first", x.text(0), 1);
        due("feed", x.feed(-1, 0, 0, 0, 0), 4);
        due("feed", x.feed(0, -1, -1, -1, -1), 20);
        for (int i = 2; i <= 12; i++) due("feed", x.feed(-1, -1, -1, -1, -1), i * 20);
        due("one more than 240", x.feed(0, 0, 0, 0, 1), NONE);
        due("nothing more", x.feed(0, 0, 0, 0, 0), 240);
        due("end", x.end(221), true);
        due("19 fit", x.feed(-1, -1, -1, -1, 0x01010100), 240);
        due("end", x.end(230), true);
        due("none of 20 is taken if 10 fit", x.feed(-1, -1, -1, -1, -1), NONE);
        due("count(2)", x.count(2), 230);
    }

    private static void end() {
        LateStamps x = new LateStamps();
        due("end(1)", x.end(1), false);
        due("end(-1)", x.end(-1), false);
        due("end(0)", x.end(0), true);
        feed(x, "k;kx");
        due("end(5)", x.end(5), false);
        due("end(4)", x.end(4), true);
        due("fault", x.fault(0), 3);
        due("end(3)", x.end(3), true);
        due("fault", x.fault(0), NONE);
        due("end(-1)", x.end(-1), false);
        due("count(2)", x.count(2), 3);
    }

    private static void faultOfStore() {
        fault(0, "", 0);
        fault(0, "   ", 3);
        fault(0, "k", NONE);
        fault(0, " k ", NONE);
        fault(0, "s", 1);
        fault(0, "s  ", 3);
        fault(0, "sm3p1t5", 7);
        fault(0, "k;", 2);
        fault(0, ";k", 0);
        fault(0, "k;;k", 2);
        fault(0, "x", 0);
        fault(0, "ks", 1);
        fault(0, "km2", 1);
        fault(0, "sv2;k", 1);
        fault(0, "sm2m3;k", 3);
        fault(0, "sp1p1;k", 3);
        fault(0, "st9t9;k", 3);
        fault(0, "sm2p0t2;k", NONE);
        fault(0, "st2p0m2;k", NONE);
        fault(0, "kv1v2", 3);
        fault(0, "kv1;kv2", NONE);
        fault(0, "sm2;sm2;k", 4);
        fault(0, "s;k;k;k;k;k;k", NONE);
        fault(0, "k;k;k;k;k;k;s", NONE);
        fault(0, "k;k;k;k;k;k;k", 12);
        fault(0, "k;k;k;s;k;k;k;k", 14);
        fault(0, "s;k;k;k;k;k;k;s", 14);
        fault(0, "s;k;k;k;k;k;k; k", 15);
        fault(0, "s;k;k;k;k;k;k;", 14);
        fault(0, "k;k;k;k;k;kv7;s", NONE);
        fault(0, "kv1 1", 4);
        fault(0, "sp2 1;k", 2);
        fault(0, "st21 ;k", 3);
        fault(0, "sm;k", 2);
        fault(0, "sm", 2);
        fault(0, "sm1", 2);
        fault(0, "sm1;k", 2);
        fault(0, "sm2;k", NONE);
        fault(0, "sm9;k", NONE);
        fault(0, "sm09;k", NONE);
        fault(0, "sm01;k", 3);
        fault(0, "sm10;k", 3);
        fault(0, "sm100;k", 4);
        fault(0, "sp2;k", 2);
        fault(0, "sp1;k", NONE);
        fault(0, "sp01;k", NONE);
        fault(0, "sp10;k", 3);
        fault(0, "st1;k", 2);
        fault(0, "st2;k", NONE);
        fault(0, "st20;k", NONE);
        fault(0, "st21;k", 3);
        fault(0, "st210;k", 4);
        fault(0, "st 2 0;k", 5);
        fault(0, "kv99", NONE);
        fault(0, "kv0", NONE);
        fault(0, "kv100", 4);
        fault(0, "kv1 0", 4);
        fault(0, "kv", 2);
        fault(0, "kv ", 3);
        fault(0, "kv-1", 2);
        fault(0, "k v 5 ; s p 0 t 3 ; k", NONE);
        fault(0, "K", 0);
        fault(0, "k\tv1", 1);
        fault(0, "k" + (char) 233, 1);
        due("fault(2)", new LateStamps().fault(2), -2);
        due("fault(-1)", new LateStamps().fault(-1), -2);
    }

    private static void faultOfScript() {
        fault(1, "", 0);
        fault(1, "p", NONE);
        fault(1, " p ; p ", NONE);
        fault(1, "o", 1);
        fault(1, "o0", 2);
        fault(1, "o01", NONE);
        fault(1, "o 0 1", NONE);
        fault(1, "o99", NONE);
        fault(1, "o012", 3);
        fault(1, "ox1", 1);
        fault(1, "r00", NONE);
        fault(1, "r0;", 2);
        fault(1, "r79;", 4);
        fault(1, "c0", NONE);
        fault(1, "c00", 2);
        fault(1, "c", 1);
        fault(1, "a9", NONE);
        fault(1, "a;p", 1);
        fault(1, "p0", 1);
        fault(1, "w00:0", NONE);
        fault(1, "w 0 0 : 99", NONE);
        fault(1, "w00:9 9", 6);
        fault(1, "w00:999", 6);
        fault(1, "w00:", 4);
        fault(1, "w00", 3);
        fault(1, "w005", 3);
        fault(1, "w0:5", 2);
        fault(1, "p;;p", 2);
        fault(1, ";", 0);
        fault(1, "k", 0);
        fault(1, "p" + ";p".repeat(15), NONE);
        fault(1, "p" + ";p".repeat(15) + "  ", NONE);
        fault(1, "p" + ";p".repeat(15) + " ;", 32);
        fault(1, "p" + ";p".repeat(16), 31);
        fault(1, "p" + ";p".repeat(15) + "x", 31);
    }

    private static void text() {
        LateStamps x = new LateStamps();
        due("text(0) of nothing", x.text(0), NONE);
        due("text(1) of nothing", x.text(1), NONE);
        feed(x, "k;k;sx");
        due("text(0)", x.text(0), NONE);
        due("text(2)", x.text(2), NONE);
        due("text(-1)", x.text(-1), NONE);
        due("the tape stays", x.count(2), 6);
        x.end(5);
        due("text(0)", x.text(0), 2);
        due("the tape is empty", x.count(2), 0);
        for (int i = 0; i < 4; i++) due("script", tell(x, "p", 1), i);
        feed(x, "p");
        due("a fifth script", x.text(1), NONE);
        due("the tape stays", x.count(2), 1);
        x.open(0, 0);
        x.openAt(1, 0, 5);
        x.open(9, 0);
        x.prune();
        x.image();
        due("another store", tell(x, "kv8", 0), 1);
        due("seats are empty", x.seat(0, 0) + x.seat(1, 0), 0);
        due("clock", x.all(11), 0);
        due("floor", x.all(12), 0);
        due("log", x.count(4), 0);
        due("hands", x.count(3), 0);
        due("undo", x.count(5), 0);
        due("undo", x.undo(), NONE);
        due("no image of this store", x.back(), NONE);
        due("scripts stay", x.count(1), 4);
        due("status stays", x.status(0), 1);
        versionIs(x, 0, 0, 0, 8, 0, NONE);
        due("versions(1)", x.versions(1), NONE);
        tell(x, "k", 0);
        versionIs(x, 0, 0, 0, 0, 0, NONE);
        tell(x, "k;k;k;k;k;kv7", 0);
        versionIs(x, 5, 0, 0, 7, 0, NONE);
        due("the rules are told anew", x.rule(0), 6);
    }

    private static void rule() {
        LateStamps x = new LateStamps();
        due("rule(1)", x.rule(1), NONE);
        tell(x, "k", 0);
        due("MOST without", x.rule(0), 6);
        due("p without", x.rule(1), 0);
        due("STRIDE without", x.rule(2), 10);
        due("rule(3)", x.rule(3), NONE);
        due("rule(-1)", x.rule(-1), NONE);
        tell(x, "k;st7p1m2", 0);
        due("MOST", x.rule(0), 2);
        due("p", x.rule(1), 1);
        due("STRIDE", x.rule(2), 7);
        tell(x, "sm9;k", 0);
        due("MOST", x.rule(0), 9);
        due("p without", x.rule(1), 0);
        due("STRIDE without", x.rule(2), 10);
    }

    private static void seat() {
        LateStamps x = new LateStamps();
        thrown(x, 0, 0);
        tell(x, "k;k", 0);
        due("nobody", x.seat(7, 0), 0);
        for (int what = 1; what < 5; what++) thrown(x, 7, what);
        thrown(x, -1, 0);
        thrown(x, 8, 0);
        x.open(7, 1);
        x.open(3, 1);
        x.open(5, 0);
        thrown(x, 7, 5);
        thrown(x, 7, -1);
        x.write(7, 0, 1);
        x.read(3, 0);
        due("STATE", x.seat(3, 0), 1);
        due("STAMP", x.seat(3, 1), 20);
        due("WAY", x.seat(3, 2), 1);
        due("WAY", x.seat(5, 2), 0);
        due("DEPENDS", x.seat(3, 3), 128);
        due("not DOOMED", x.seat(7, 4), 0);
        x.read(5, 0);
        due("DOOMED", x.seat(7, 4), 1);
        due("not DOOMED", x.seat(3, 4), 0);
        x.commit(3);
        due("WAITING", x.seat(3, 0), 2);
        x.commit(5);
        due("SURE", x.seat(5, 0), 3);
        due("its STAMP still", x.seat(5, 1), 30);
        x.commit(7);
        due("FALLEN", x.seat(7, 0), 4);
        due("DOOMED still", x.seat(7, 4), 1);
        due("FALLEN with it", x.seat(3, 0), 4);
        due("DEPENDS on none", x.seat(3, 3), 0);
        x.open(7, 0);
        due("another one", x.seat(7, 4), 0);
    }

    private static void readBy() {
        LateStamps x = store("k;k");
        due("nobody", x.readBy(0, 0), NONE);
        x.open(0, 1);
        x.open(1, 1);
        due("none", x.readBy(1, 0), NONE);
        x.read(1, 0);
        due("the first", x.readBy(1, 0), 0);
        due("another key", x.readBy(1, 1), NONE);
        x.write(0, 1, 4);
        x.read(1, 1);
        due("the MARK", x.readBy(1, 1), 10);
        x.write(1, 1, 5);
        x.read(1, 1);
        due("its own leaves READ", x.readBy(1, 1), 10);
        due("readBy(8, 0)", x.readBy(8, 0), NONE);
        due("readBy(-1, 0)", x.readBy(-1, 0), NONE);
        due("readBy(1, 2)", x.readBy(1, 2), NONE);
        due("readBy(1, -1)", x.readBy(1, -1), NONE);
        x.abort(0);
        due("the FALLEN tells still", x.readBy(1, 1), 10);
        x.open(1, 1);
        due("another one", x.readBy(1, 1), NONE);
    }

    private static void deed() {
        LateStamps x = store("k;k;k;k;k;k");
        due("nobody", x.deed(0, 0, 0), HIDDEN);
        x.open(0, 0);
        due("none yet", x.deed(0, 0, 0), HIDDEN);
        x.read(0, 5);
        x.write(0, 5, 99);
        x.write(0, 4, 0);
        x.read(0, 5);
        due("READ", x.deed(0, 0, 0), 1);
        due("the KEY", x.deed(0, 0, 1), 5);
        due("no VALUE", x.deed(0, 0, 2), NONE);
        due("WROTE", x.deed(0, 1, 0), 2);
        due("the KEY", x.deed(0, 1, 1), 5);
        due("the VALUE", x.deed(0, 1, 2), 99);
        due("the VALUE 0", x.deed(0, 2, 2), 0);
        due("its own READ", x.deed(0, 3, 0), 1);
        due("deed(0, 4, 0)", x.deed(0, 4, 0), HIDDEN);
        due("deed(0, -1, 0)", x.deed(0, -1, 0), HIDDEN);
        due("deed(0, 0, 3)", x.deed(0, 0, 3), HIDDEN);
        due("deed(0, 0, -1)", x.deed(0, 0, -1), HIDDEN);
        due("deed(8, 0, 0)", x.deed(8, 0, 0), HIDDEN);
        due("deed(-1, 0, 0)", x.deed(-1, 0, 0), HIDDEN);
        x.write(0, 9, 1);
        x.write(0, 1, 100);
        due("what is refused is no DEED", x.deed(0, 4, 0), HIDDEN);
        for (int i = 4; i < 14; i++) due("write", x.write(0, 0, i), i == 4 ? 1 : 0);
        due("the 12th", x.deed(0, 11, 2), 11);
        due("no 13th", x.deed(0, 12, 0), HIDDEN);
        x.commit(0);
        due("who is SURE tells still", x.deed(0, 11, 2), 11);
        x.open(1, 0);
        x.open(2, 0);
        x.read(2, 3);
        x.write(1, 3, 7);
        due("LATE, too", x.deed(1, 0, 2), 7);
        x.open(0, 0);
        due("another one", x.deed(0, 0, 0), HIDDEN);
    }

    private static void versions() {
        LateStamps x = store("k;k;sm3");
        due("versions(0)", x.versions(0), 1);
        due("versions(2)", x.versions(2), NONE);
        due("versions(-1)", x.versions(-1), NONE);
        x.open(0, 0);
        x.write(0, 1, 1);
        due("one more", x.versions(1), 2);
        due("the other", x.versions(0), 1);
        x.abort(0);
        due("gone", x.versions(1), 1);
    }

    private static void version() {
        LateStamps x = store("kv7;k");
        x.open(0, 1);
        x.open(1, 1);
        x.open(2, 1);
        x.write(2, 0, 30);
        x.write(0, 0, 10);
        x.write(1, 0, 20);
        versionIs(x, 0, 0, 0, 7, 0, NONE);
        versionIs(x, 0, 1, 10, 10, 10, 0);
        versionIs(x, 0, 2, 20, 20, 20, 1);
        versionIs(x, 0, 3, 30, 30, 30, 2);
        x.commit(1);
        versionIs(x, 0, 2, 20, 20, 20, NONE);
        x.abort(0);
        versionIs(x, 0, 1, 20, 20, 20, NONE);
        versionIs(x, 0, 2, 30, 30, 30, 2);
        due("version(0, 3, 0)", x.version(0, 3, 0), HIDDEN);
        due("version(0, -1, 0)", x.version(0, -1, 0), HIDDEN);
        due("version(0, 0, 4)", x.version(0, 0, 4), HIDDEN);
        due("version(0, 0, -1)", x.version(0, 0, -1), HIDDEN);
        due("version(2, 0, 0)", x.version(2, 0, 0), HIDDEN);
        due("version(-1, 0, 0)", x.version(-1, 0, 0), HIDDEN);
    }

    private static void open() {
        LateStamps x = new LateStamps();
        due("no STORE", x.open(0, 0), NONE);
        tell(x, "k;st7", 0);
        due("open", x.open(0, 0), 7);
        due("open", x.open(7, 1), 14);
        logIs(x, 0, 0, 7, 14);
        statusIs(x, 1, 0, 0, 0);
        due("open(8, 5)", x.open(8, 5), NONE);
        due("open(-1, 0)", x.open(-1, 0), NONE);
        statusIs(x, 3, 0, 0, 0);
        due("open(0, 2)", x.open(0, 2), NONE);
        due("open(1, -1)", x.open(1, -1), NONE);
        statusIs(x, 3, 2, 0, 0);
        due("taken", x.open(0, 0), NONE);
        statusIs(x, 3, 2, 1, 0);
        x.write(0, 0, 1);
        x.read(7, 0);
        x.commit(7);
        due("taken by one WAITING", x.open(7, 0), NONE);
        x.commit(0);
        due("who was SURE is gone", x.open(7, 0), 21);
        x.abort(7);
        due("who was FALLEN is gone", x.open(7, 1), 28);
        due("ACTS", x.count(5), 9);
        due("nothing else", x.all(11), 28);
    }

    /** Eight at SEAT 0 a call: an object has 512 calls alone. */
    private static void eightFallAt(LateStamps x, int times) {
        int script = tell(x, "o00;a0;o00;a0;o00;a0;o00;a0;o00;a0;o00;a0;o00;a0;o00;a0", 1);
        for (int i = 0; i < times; i++) x.perform(script);
    }

    private static void openAtTheClocksEnd() {
        LateStamps x = store("k;st20");
        eightFallAt(x, 63);
        due("clock", x.all(11), 9980);
        due("10,000 is too much", x.open(0, 0), NONE);
        due("nor retry", x.retry(0), NONE);
        due("nor retries", x.retries(0), NONE);
        statusIs(x, 0, 0, 0, 2);
        due("by hand it goes", x.openAt(1, 0, 9979), 9979);
        due("taken is first", x.open(1, 0), NONE);
        statusIs(x, 0, 0, 1, 2);
        x = store("k;st11");
        eightFallAt(x, 114);
        due("9,999 itself is not too much", x.all(11), 9999);
        due("open", x.open(0, 0), NONE);
    }

    private static void openAt() {
        LateStamps x = new LateStamps();
        due("no STORE", x.openAt(0, 0, 1), NONE);
        tell(x, "k;st5", 0);
        due("the clock is 0", x.openAt(0, 0, 1), NONE);
        x.open(0, 0);
        x.open(1, 0);
        due("openAt", x.openAt(2, 1, 9), 9);
        due("its STAMP", x.seat(2, 1), 9);
        due("its WAY", x.seat(2, 2), 1);
        logIs(x, 0, 0, 2, 9);
        due("the clock stays", x.all(11), 10);
        statusIs(x, 1, 0, 1, 0);
        due("a multiple", x.openAt(3, 0, 5), NONE);
        due("0", x.openAt(3, 0, 0), NONE);
        due("below 0", x.openAt(3, 0, -3), NONE);
        due("the clock", x.openAt(3, 0, 10), NONE);
        due("above the clock", x.openAt(3, 0, 11), NONE);
        due("opened before", x.openAt(3, 0, 9), NONE);
        due("taken", x.openAt(2, 0, 8), NONE);
        statusIs(x, 1, 0, 8, 0);
        due("WAY", x.openAt(2, 2, 9), NONE);
        due("WAY", x.openAt(3, -1, 8), NONE);
        statusIs(x, 1, 2, 8, 0);
        due("SEAT", x.openAt(8, 2, 8), NONE);
        due("SEAT", x.openAt(-1, 0, 8), NONE);
        statusIs(x, 3, 2, 8, 0);
        due("openAt", x.openAt(3, 0, 1), 1);
        due("STAMPS by hand", x.count(3), 2);
        x.abort(3);
        due("still opened before", x.openAt(3, 0, 1), NONE);
        x.prune();
        due("floor", x.all(12), 5);
        due("below the floor", x.openAt(3, 0, 4), NONE);
        due("above the floor", x.openAt(3, 0, 6), 6);
        x.undo();
        due("undone: free again", x.openAt(3, 0, 6), 6);
        due("STAMPS by hand", x.count(3), 3);
    }

    private static void thirtyByHand() {
        LateStamps x = store("k;st20");
        x.open(0, 0);
        x.open(0, 0);
        x.abort(0);
        x.open(0, 0);
        x.abort(0);
        for (int i = 1; i <= 30; i++) {
            int stamp = i < 20 ? i : i + 1;
            due("openAt", x.openAt(1, 0, stamp), stamp);
            x.abort(1);
        }
        due("30 were", x.openAt(1, 0, 32), NONE);
        statusIs(x, 0, 0, 1, 1);
        due("a STAMP that can't be is first", x.openAt(1, 0, 31), NONE);
        statusIs(x, 0, 0, 2, 1);
        due("count(3)", x.count(3), 30);
        x.undo();
        x.undo();
        due("count(3)", x.count(3), 29);
        due("one undone, one more", x.openAt(1, 0, 32), 32);
    }

    private static void read() {
        LateStamps x = new LateStamps();
        due("no STORE", x.read(0, 0), NONE);
        tell(x, "kv5;kv6", 0);
        due("nobody there", x.read(0, 0), NONE);
        x.open(0, 1);
        x.open(1, 1);
        x.open(2, 1);
        due("SEAT", x.read(8, 0), NONE);
        due("SEAT", x.read(-1, 0), NONE);
        due("KEY", x.read(0, 2), NONE);
        due("KEY", x.read(0, -1), NONE);
        statusIs(x, 6, 0, 0, 0);
        due("the first", x.read(1, 0), 5);
        logIs(x, 0, 1, 1, 0);
        versionIs(x, 0, 0, 0, 5, 20, NONE);
        due("read by a lesser stamp", x.read(0, 0), 5);
        versionIs(x, 0, 0, 0, 5, 20, NONE);
        x.write(1, 0, 50);
        due("an older one passes a newer one", x.read(0, 0), 5);
        due("its own", x.read(1, 0), 50);
        logIs(x, 0, 1, 1, 20);
        versionIs(x, 0, 1, 20, 50, 20, 1);
        due("not sure, by WAY 1", x.read(2, 0), 50);
        versionIs(x, 0, 1, 20, 50, 30, 1);
        due("DEPENDS", x.seat(2, 3), 2);
        due("its own does not make it DEPEND", x.seat(1, 3), 0);
        x.commit(2);
        due("WAITING", x.read(2, 0), NONE);
        statusIs(x, 6, 0, 1, 0);
        x.commit(1);
        due("SURE", x.read(2, 0), NONE);
        x.abort(0);
        due("FALLEN", x.read(0, 0), NONE);
        statusIs(x, 6, 0, 3, 0);
        due("KEY is first", x.read(0, 3), NONE);
        statusIs(x, 7, 0, 3, 0);
        x.open(0, 1);
        x.read(0, 0);
        due("what is sure makes none DEPEND", x.seat(0, 3), 0);
    }

    private static void readDooms() {
        LateStamps x = store("kv5;k");
        for (int seat = 0; seat < 6; seat++) x.open(seat, seat == 3 || seat == 5 ? 0 : 1);
        for (int seat = 0; seat < 5; seat++) x.write(seat, 0, seat);
        x.write(0, 1, 9);
        x.commit(1);
        due("its own is read by WAY 0, too", x.read(3, 0), 3);
        due("that dooms none", x.all(4), 0);
        due("the sure one of stamp 20", x.read(5, 0), 1);
        due("between 20 and 60 all are DOOMED", x.all(4), 4 + 8 + 16);
        due("readBy", x.readBy(5, 0), 20);
        due("DEPENDS on none", x.seat(5, 3), 0);
        due("read", x.read(5, 1), 0);
        due("key 1, too", x.all(4), 1 + 4 + 8 + 16);
        x.openAt(6, 0, 25);
        x.openAt(7, 0, 5);
        x.undo();
        x.undo();
        x.undo();
        due("undone", x.all(4), 4 + 8 + 16);
        x.openAt(6, 0, 5);
        due("none below 5", x.read(6, 1), 0);
        due("none more", x.all(4), 4 + 8 + 16);
    }

    private static void write() {
        LateStamps x = new LateStamps();
        due("no STORE", x.write(0, 0, 0), NONE);
        tell(x, "k;k", 0);
        due("nobody", x.write(0, 0, 100), NONE);
        x.open(0, 1);
        x.open(1, 1);
        due("SEAT", x.write(8, 0, 0), NONE);
        due("SEAT", x.write(-1, 0, 0), NONE);
        due("KEY", x.write(0, 2, 0), NONE);
        due("KEY", x.write(0, -1, 100), NONE);
        statusIs(x, 6, 0, 0, 0);
        due("VALUE", x.write(0, 0, 100), NONE);
        due("VALUE", x.write(0, 0, -1), NONE);
        statusIs(x, 6, 2, 0, 0);
        due("write", x.write(0, 0, 99), 1);
        logIs(x, 0, 2, 0, 1);
        due("again", x.write(0, 0, 0), 0);
        logIs(x, 0, 2, 0, 0);
        versionIs(x, 0, 1, 10, 0, 10, 0);
        due("the same", x.write(0, 0, 0), 0);
        x.read(0, 0);
        due("its own READ makes it not LATE", x.write(0, 0, 1), 0);
        x.read(0, 1);
        due("nor READ by its own STAMP", x.write(0, 1, 1), 1);
        due("read", x.read(1, 0), 1);
        due("own one was seen: LATE", x.write(0, 0, 2), -2);
        logIs(x, 2, 2, 0, -2);
        logIs(x, 1, 5, 0, 10);
        logIs(x, 0, 5, 1, 20);
        due("versions are gone", x.versions(0) + x.versions(1), 2);
        due("FALLEN", x.write(0, 0, 2), NONE);
        due("VALUE is first", x.write(0, 0, 200), NONE);
        statusIs(x, 6, 3, 1, 0);
        x.open(0, 0);
        x.open(1, 0);
        due("the newer one", x.write(1, 0, 4), 1);
        due("settles between", x.write(0, 0, 3), 1);
        versionIs(x, 0, 1, 30, 3, 30, 0);
        versionIs(x, 0, 2, 40, 4, 40, 1);
        x.commit(1);
        due("SURE", x.write(1, 0, 4), NONE);
        statusIs(x, 6, 3, 2, 0);
    }

    private static void writeTooMany() {
        LateStamps x = store("k;k;sm2");
        x.open(0, 0);
        x.open(1, 0);
        x.open(2, 0);
        due("write", x.write(1, 0, 1), 1);
        due("a third", x.write(2, 0, 1), NONE);
        statusIs(x, 0, 0, 0, 1);
        due("no DEED", x.deed(2, 0, 0), HIDDEN);
        due("its own", x.write(1, 0, 2), 0);
        due("another KEY", x.write(2, 1, 2), 1);
        x.read(1, 1);
        due("LATE, though full", x.write(0, 1, 2), -2);
        statusIs(x, 0, 0, 0, 1);
        due("ACTS", x.count(5), 8);
        x.abort(1);
        due("there is room again", x.write(2, 0, 1), 1);
    }

    private static void commit() {
        LateStamps x = new LateStamps();
        due("no STORE", x.commit(0), NONE);
        tell(x, "k;k", 0);
        due("nobody", x.commit(0), NONE);
        due("SEAT", x.commit(8), NONE);
        due("SEAT", x.commit(-1), NONE);
        statusIs(x, 4, 0, 0, 0);
        x.open(0, 1);
        x.open(1, 1);
        x.open(2, 1);
        x.write(0, 0, 1);
        x.write(1, 1, 2);
        x.read(2, 0);
        x.read(2, 1);
        due("DEPENDS on two", x.commit(2), 2);
        logIs(x, 0, 3, 2, 30);
        due("WAITING", x.commit(2), NONE);
        due("SURE", x.commit(1), 0);
        due("one left", x.seat(2, 3), 1);
        due("still WAITING", x.seat(2, 0), 2);
        due("SURE", x.commit(1), NONE);
        due("SURE", x.commit(0), 0);
        logIs(x, 2, 3, 0, 10);
        logIs(x, 1, 4, 0, 10);
        logIs(x, 0, 4, 2, 30);
        x.open(3, 0);
        x.abort(3);
        due("FALLEN", x.commit(3), NONE);
        statusIs(x, 4, 0, 3, 0);
        due("no pruning by itself", x.versions(0), 2);
    }

    private static void commitOfDoomed() {
        LateStamps x = store("k;k");
        for (int seat = 0; seat < 3; seat++) x.open(seat, 1);
        x.open(3, 0);
        x.write(0, 0, 1);
        x.write(1, 1, 1);
        x.read(1, 0);
        x.read(2, 1);
        x.commit(2);
        x.commit(1);
        x.read(3, 1);
        due("the WAITING one is DOOMED", x.all(4), 2);
        due("sures", x.sures(0), 1);
        due("SURE", x.commit(0), 0);
        logIs(x, 3, 3, 0, 10);
        logIs(x, 2, 4, 0, 10);
        logIs(x, 1, 5, 1, 20);
        logIs(x, 0, 5, 2, 30);
        due("FALLEN", x.all(3), 6);
        due("versions", x.versions(1), 1);
        x.open(0, 0);
        x.open(1, 0);
        x.write(0, 0, 2);
        x.read(1, 0);
        due("DOOMED", x.commit(0), -2);
        logIs(x, 0, 5, 0, 50);
        logIs(x, 1, 1, 1, 10);
    }

    private static void commitReleases() {
        LateStamps x = store("k;k;k;sp1");
        for (int seat = 7; seat >= 4; seat--) x.open(seat, 1);
        x.write(7, 0, 1);
        x.read(6, 0);
        x.read(5, 0);
        x.write(6, 1, 1);
        x.read(4, 1);
        x.commit(4);
        x.commit(5);
        x.commit(6);
        due("WAITING", x.all(1), 0x70);
        due("SURE", x.commit(7), 0);
        // 7 (stamp 10), its pruning, then the lowest that depends on none: 5 (30), 6 (20), 4 (40).
        logIs(x, 8, 3, 7, 10);
        logIs(x, 7, 4, 7, 10);
        logIs(x, 6, 6, NONE, 1);
        logIs(x, 5, 4, 5, 30);
        logIs(x, 4, 6, NONE, 0);
        logIs(x, 3, 4, 6, 20);
        logIs(x, 2, 6, NONE, 1);
        logIs(x, 1, 4, 4, 40);
        logIs(x, 0, 6, NONE, 0);
        due("floor", x.all(12), 40);
        due("SURE", x.all(2), 0xF0);
    }

    private static void abort() {
        LateStamps x = new LateStamps();
        due("no STORE", x.abort(0), NONE);
        tell(x, "k;k", 0);
        due("nobody", x.abort(0), NONE);
        due("SEAT", x.abort(8), NONE);
        due("SEAT", x.abort(-1), NONE);
        statusIs(x, 4, 0, 0, 0);
        x.open(5, 1);
        x.open(3, 1);
        x.open(4, 1);
        x.open(0, 1);
        x.write(5, 0, 1);
        x.read(4, 0);
        x.read(3, 0);
        x.write(3, 1, 1);
        x.read(0, 1);
        x.commit(0);
        due("a WAITING one FALLS", x.abort(0), 1);
        x.undo();
        due("all behind it", x.abort(5), 4);
        logIs(x, 3, 5, 5, 10);
        logIs(x, 2, 5, 3, 20);
        logIs(x, 1, 5, 0, 40);
        logIs(x, 0, 5, 4, 30);
        due("FALLEN", x.abort(5), NONE);
        x.open(6, 0);
        x.commit(6);
        due("SURE", x.abort(6), NONE);
        statusIs(x, 4, 0, 2, 0);
        due("versions", x.all(13), 2);
    }

    private static void retry() {
        LateStamps x = new LateStamps();
        due("no STORE", x.retry(0), NONE);
        tell(x, "k;k", 0);
        due("nobody", x.retry(0), NONE);
        due("SEAT", x.retry(8), NONE);
        due("SEAT", x.retry(-1), NONE);
        statusIs(x, 4, 0, 0, 0);
        x.open(0, 0);
        due("ACTIVE", x.retry(0), NONE);
        x.commit(0);
        due("SURE", x.retry(0), NONE);
        statusIs(x, 4, 0, 2, 0);
        x.open(1, 1);
        x.open(2, 1);
        x.read(1, 0);
        x.write(1, 1, 7);
        x.read(2, 0);
        due("LATE", x.write(1, 0, 8), -2);
        x.write(2, 1, 3);
        due("all DEEDS", x.retry(1), 3);
        due("STAMP", x.seat(1, 1), 40);
        due("WAY", x.seat(1, 2), 1);
        due("ACTIVE", x.seat(1, 0), 1);
        logIs(x, 3, 0, 1, 40);
        logIs(x, 2, 1, 1, 0);
        logIs(x, 1, 2, 1, 1);
        logIs(x, 0, 2, 1, 1);
        versionIs(x, 0, 1, 40, 8, 40, 1);
        versionIs(x, 1, 2, 40, 7, 40, 1);
        due("DEEDS are those that were", x.deed(1, 2, 2), 8);
        due("no more", x.deed(1, 3, 0), HIDDEN);
        x.read(1, 1);
        due("one more", x.deed(1, 3, 0), 1);
        due("one ACT", x.count(5), 11);
        x.undo();
        x.undo();
        due("undone", x.seat(1, 0), 4);
        due("clock", x.all(11), 30);
        x.abort(2);
        x.open(3, 0);
        x.read(3, 0);
        x.retry(2);
        due("who is DOOMED no more", x.seat(2, 4), 0);
    }

    private static void retryStops() {
        LateStamps x = store("k;k;sm2");
        x.open(0, 1);
        x.read(0, 1);
        x.write(0, 0, 1);
        x.write(0, 1, 1);
        x.abort(0);
        x.open(1, 1);
        x.write(1, 0, 5);
        due("one can't be", x.retry(0), 1);
        due("ACTIVE", x.seat(0, 0), 1);
        due("DEEDS are those that were", x.deed(0, 2, 0), 2);
        due("not done", x.versions(1), 1);
        due("no STATUS", x.status(3), 0);
        x.abort(0);
        x.commit(1);
        x.prune();
        x.retry(0);
        due("all done", x.versions(1), 2);
        x = store("k;k");
        x.open(0, 1);
        x.open(1, 1);
        x.write(0, 0, 1);
        x.read(1, 0);
        x.abort(0);
        x.open(0, 1);
        x.write(0, 0, 2);
        due("retry", x.retry(1), 1);
        due("it DEPENDS on what it reads now", x.seat(1, 3), 1);
        due("READ", x.readBy(1, 0), 30);
    }

    private static void prune() {
        LateStamps x = new LateStamps();
        due("no STORE", x.prune(), NONE);
        due("status", x.status(0), 1);
        tell(x, "k;k", 0);
        due("prune", x.prune(), 0);
        due("floor", x.all(12), 0);
        logIs(x, 0, 6, NONE, 0);
        due("an ACT", x.count(5), 1);
        for (int i = 0; i < 3; i++) {
            x.open(0, 0);
            x.write(0, 0, i);
            x.commit(0);
        }
        x.open(1, 1);
        x.open(2, 1);
        x.write(2, 0, 77);
        x.open(3, 1);
        x.write(3, 0, 78);
        x.commit(3);
        due("spare", x.all(10), 3);
        due("versions", x.versions(0), 6);
        due("prune", x.prune(), 3);
        due("floor", x.all(12), 40);
        versionIs(x, 0, 0, 30, 2, 30, NONE);
        versionIs(x, 0, 1, 50, 77, 50, 2);
        versionIs(x, 0, 2, 60, 78, 60, NONE);
        due("nothing left", x.prune(), 0);
        x.abort(1);
        due("what is not sure stays", x.prune(), 0);
        due("floor", x.all(12), 50);
        x.commit(2);
        due("by the clock", x.prune(), 2);
        due("floor", x.all(12), 60);
        versionIs(x, 0, 0, 60, 78, 60, NONE);
        x.open(0, 0);
        due("the floor is no less", x.prune(), 0);
        due("floor", x.all(12), 70);
        x.openAt(5, 0, 69);
        due("not below the floor", x.all(0), 1);
    }

    private static void years() {
        LateStamps x = new LateStamps();
        due("no STORE", x.years(1, 1), NONE);
        tell(x, "k;k;k;st2", 0);
        due("years(0)", x.years(0, 1), NONE);
        due("years(41)", x.years(41, 1), NONE);
        due("years(-1)", x.years(-1, 1), NONE);
        statusIs(x, 0, 0, 0, 0);
        due("no ACT", x.count(5), 0);
        due("one year, by a seed that opens", x.years(1, seedThatOpens()), 2);
        for (long seed = -3; seed < 12; seed++) {
            LateStamps byHand = store("k;k;k;st2");
            drawn(byHand, 40, seed, 3);
            tell(x, "k;k;k;st2", 0);
            due("the clock", x.years(40, seed), byHand.all(11));
            due("acts", x.count(5), byHand.count(5));
            same(x, byHand);
        }
        statusIs(x, 0, 0, 0, 0);
    }

    private static long seedThatOpens() {
        for (long seed = 0; seed < 1000; seed++) if (draw(new long[] {seed}, 8) == 0) return seed;
        return 0;
    }

    /** YEARS, told by hand. */
    private static void drawn(LateStamps x, int n, long seed, int keys) {
        long[] s = {seed};
        for (int i = 0; i < n; i++) {
            int sort = draw(s, 8);
            int seat = draw(s, 8);
            if (sort == 0) {
                x.open(seat, draw(s, 2));
            } else if (sort < 3) {
                x.read(seat, draw(s, keys));
            } else if (sort < 5) {
                int key = draw(s, keys);
                x.write(seat, key, draw(s, 100));
            } else if (sort < 7) {
                x.commit(seat);
            } else {
                x.abort(seat);
            }
        }
    }

    private static int draw(long[] s, int j) {
        s[0] = s[0] * 6364136223846793005L + 1442695040888963407L;
        return (int) ((s[0] >>> 33) % j);
    }

    private static void same(LateStamps x, LateStamps y) {
        for (int what = 0; what < 14; what++) due("all(" + what + ")", x.all(what), y.all(what));
        due("length of the log", x.count(4), y.count(4));
        for (int i = 0; i < 60; i++) for (int what = 0; what < 3; what++) due("log", x.log(i, what), y.log(i, what));
        for (int key = 0; key < 6; key++) {
            for (int i = 0; i < 9; i++) {
                for (int what = 0; what < 4; what++) due("version", x.version(key, i, what), y.version(key, i, what));
            }
        }
    }

    private static void status() {
        LateStamps x = new LateStamps();
        due("status(4)", x.status(4), NONE);
        due("status(-1)", x.status(-1), NONE);
        x.prune();
        x.undo();
        x.back();
        x.image();
        x.perform(0);
        x.years(1, 1);
        x.rule(9);
        statusIs(x, 1, 0, 0, 0);
        tell(x, "k", 0);
        tell(x, "c0;p", 1);
        x.perform(0);
        x.open(0, 0);
        x.open(0, 3);
        x.open(0, 0);
        statusIs(x, 1, 1, 1, 0);
        x.undo();
        x.undo();
        statusIs(x, 1, 1, 1, 0);
        x.image();
        x.read(3, 3);
        x.back();
        statusIs(x, 2, 1, 1, 0);
    }

    private static void undo() {
        LateStamps x = new LateStamps();
        due("none", x.undo(), NONE);
        tell(x, "k;k", 0);
        due("none", x.undo(), NONE);
        for (int i = 0; i < 45; i++) {
            x.open(0, 1);
            x.write(0, 1, i);
            x.read(0, 1);
            x.abort(0);
        }
        due("40 at most", x.count(5), 40);
        x.open(0, 9);
        due("what is refused is no ACT", x.count(5), 40);
        for (int i = 39; i >= 0; i--) due("undo", x.undo(), i);
        due("no more", x.undo(), NONE);
        due("the clock of the 35th", x.all(11), 350);
        due("the LOG, too", x.count(4), 60);
        logIs(x, 0, 5, 0, 350);
        x.open(0, 1);
        x.openAt(1, 0, 355);
        x.write(0, 0, 5);
        x.read(0, 0);
        x.commit(0);
        x.prune();
        due("undo", x.undo(), 5);
        due("floor", x.all(12), 0);
        due("undo", x.undo(), 4);
        due("ACTIVE", x.seat(0, 0), 1);
        versionIs(x, 0, 1, 360, 5, 360, 0);
        due("undo", x.undo(), 3);
        due("deeds", x.deed(0, 1, 0), HIDDEN);
        due("undo", x.undo(), 2);
        due("versions", x.versions(0), 1);
        due("undo", x.undo(), 1);
        due("hands", x.count(3), 0);
        due("undo", x.undo(), 0);
        due("who was there is there again", x.seat(0, 1), 350);
        due("and his state", x.seat(0, 0), 4);
    }

    private static void log() {
        LateStamps x = store("k");
        due("log(0, 0)", x.log(0, 0), HIDDEN);
        x.open(2, 1);
        due("log(0, 3)", x.log(0, 3), HIDDEN);
        due("log(0, -1)", x.log(0, -1), HIDDEN);
        due("log(-1, 0)", x.log(-1, 0), HIDDEN);
        due("log(1, 0)", x.log(1, 0), HIDDEN);
        logIs(x, 0, 0, 2, 10);
        x.read(2, 0);
        logIs(x, 0, 1, 2, 0);
        x.write(2, 0, 55);
        logIs(x, 0, 2, 2, 1);
        x.write(2, 0, 56);
        logIs(x, 0, 2, 2, 0);
        x.commit(2);
        logIs(x, 1, 3, 2, 10);
        logIs(x, 0, 4, 2, 10);
        x.prune();
        logIs(x, 0, 6, NONE, 1);
        logIs(x, 6, 0, 2, 10);
        for (int i = 0; i < 53; i++) x.prune();
        due("60", x.count(4), 60);
        logIs(x, 59, 0, 2, 10);
        x.prune();
        due("60", x.count(4), 60);
        logIs(x, 59, 1, 2, 0);
        due("log(60, 0)", x.log(60, 0), HIDDEN);
    }

    private static void would() {
        LateStamps x = store("k;k");
        due("nobody", x.would(0, 0, 0), NONE);
        x.open(0, 1);
        x.open(1, 1);
        x.open(2, 0);
        x.write(0, 0, 3);
        due("not sure, by WAY 1", x.would(1, 0, 0), 10);
        due("by WAY 0", x.would(2, 0, 0), 0);
        due("its own", x.would(0, 0, 0), 10);
        due("nothing is seen", x.version(0, 1, 2), 10);
        due("none is DOOMED", x.all(4), 0);
        due("not LATE", x.would(0, 0, 1), 0);
        x.read(1, 0);
        due("LATE", x.would(0, 0, 1), 1);
        due("not LATE", x.would(1, 0, 1), 0);
        due("ACTIVE still", x.seat(0, 0), 1);
        due("would(0, 0, 2)", x.would(0, 0, 2), NONE);
        due("would(0, 0, -1)", x.would(0, 0, -1), NONE);
        due("would(0, 2, 0)", x.would(0, 2, 0), NONE);
        due("would(0, -1, 0)", x.would(0, -1, 0), NONE);
        due("would(8, 0, 0)", x.would(8, 0, 0), NONE);
        due("would(-1, 0, 0)", x.would(-1, 0, 0), NONE);
        x.commit(1);
        due("WAITING", x.would(1, 0, 0), NONE);
        x.commit(0);
        due("SURE", x.would(0, 0, 0), NONE);
        due("sure now", x.would(2, 0, 0), 10);
    }

    private static void since() {
        LateStamps x = store("k;k");
        due("the clock is 0", x.since(0, 0), 1);
        due("one", x.since(0, 1), 1);
        due("since(2, 0)", x.since(2, 0), NONE);
        due("since(-1, 0)", x.since(-1, 0), NONE);
        due("since(0, 2)", x.since(0, 2), NONE);
        due("since(0, -1)", x.since(0, -1), NONE);
        for (int seat = 0; seat < 6; seat++) x.open(seat, 1);
        due("none has read", x.since(0, 0), 1);
        due("all", x.since(0, 1), 61);
        x.openAt(6, 1, 1);
        x.read(6, 0);
        due("1 is not above 1", x.since(0, 0), 1);
        x.write(1, 0, 1);
        x.read(3, 0);
        due("from 20 up to 39 LATE", x.since(0, 0), 1);
        due("41", x.since(0, 1), 41);
        x.read(0, 0);
        due("up to 9, too", x.since(0, 0), 10);
        due("32", x.since(0, 1), 32);
        x.write(4, 0, 1);
        x.read(5, 0);
        due("from 50 up to 59, too", x.since(0, 1), 22);
        x.read(5, 1);
        due("all but two", x.since(1, 0), 60);
        due("two", x.since(1, 1), 2);
    }

    private static LateStamps chain() {
        LateStamps x = store("k;k;k");
        for (int seat = 0; seat < 5; seat++) x.open(seat, 1);
        x.write(0, 0, 1);
        x.write(1, 1, 1);
        x.read(2, 0);
        x.write(2, 2, 1);
        x.read(3, 2);
        x.read(3, 1);
        x.read(4, 1);
        x.commit(3);
        x.commit(4);
        return x;
    }

    private static void falls() {
        LateStamps x = chain();
        due("falls(0)", x.falls(0), 1 + 4 + 8);
        due("falls(1)", x.falls(1), 2 + 8 + 16);
        due("falls(2)", x.falls(2), 4 + 8);
        due("WAITING", x.falls(3), 8);
        due("apart", x.all(3), 0);
        due("nobody", x.falls(5), NONE);
        due("falls(8)", x.falls(8), NONE);
        due("falls(-1)", x.falls(-1), NONE);
        x.abort(4);
        due("FALLEN", x.falls(4), NONE);
        due("falls(1)", x.falls(1), 2 + 8);
        x.commit(0);
        due("SURE", x.falls(0), NONE);
        x.open(0, 1);
        x.read(0, 2);
        due("the lowest SEAT, too", x.falls(2), 1 + 4 + 8);
        x.commit(0);
        due("sures", x.sures(2), 1 + 4);
    }

    private static void sures() {
        LateStamps x = chain();
        due("sures(0)", x.sures(0), 1);
        due("sures(1)", x.sures(1), 2 + 16);
        due("it would be WAITING", x.sures(2), 0);
        due("WAITING", x.sures(3), NONE);
        due("nobody", x.sures(5), NONE);
        due("sures(8)", x.sures(8), NONE);
        due("sures(-1)", x.sures(-1), NONE);
        due("apart", x.all(2), 0);
        x.commit(1);
        due("SURE", x.sures(1), NONE);
        x.commit(2);
        due("all behind it, not those SURE before", x.sures(0), 1 + 4 + 8);
        x.open(7, 0);
        x.read(7, 0);
        due("DOOMED", x.sures(0), 0);
    }

    private static void retries() {
        LateStamps x = chain();
        due("ACTIVE", x.retries(0), NONE);
        due("nobody", x.retries(6), NONE);
        due("retries(8)", x.retries(8), NONE);
        due("retries(-1)", x.retries(-1), NONE);
        x.abort(0);
        due("one", x.retries(0), 1);
        due("WAITING then is FALLEN no more", x.retries(3), 1);
        due("apart", x.seat(0, 0), 4);
        due("clock", x.all(11), 50);
        x.commit(1);
        due("SURE", x.retries(1), NONE);
    }

    private static void asOf() {
        LateStamps x = store("kv4;k");
        due("0", x.asOf(0, 0), 4);
        due("below 0", x.asOf(0, -1), NONE);
        due("asOf(2, 0)", x.asOf(2, 0), NONE);
        due("asOf(-1, 0)", x.asOf(-1, 0), NONE);
        x.open(0, 0);
        x.open(1, 0);
        x.open(2, 0);
        x.write(0, 0, 10);
        x.write(1, 0, 20);
        due("not sure", x.asOf(0, 99999), 4);
        x.commit(1);
        due("sure", x.asOf(0, 20), 20);
        due("ahead of it", x.asOf(0, 19), 4);
        due("above the clock", x.asOf(0, Integer.MAX_VALUE), 20);
        x.commit(0);
        due("sure", x.asOf(0, 19), 10);
        x.prune();
        due("the floor", x.asOf(0, 30), 20);
        due("below the floor", x.asOf(0, 29), NONE);
        due("nothing is seen", x.version(0, 0, 2), 20);
    }

    private static void step() {
        LateStamps x = new LateStamps();
        due("no SCRIPT", x.step(0, 0, 0), HIDDEN);
        tell(x, "o91;r87;w76:5;c4;a3;p", 1);
        int[][] steps = {{0, 9, 1, NONE}, {1, 8, 7, NONE}, {2, 7, 6, 5}, {3, 4, NONE, NONE}, {4, 3, NONE, NONE},
            {5, NONE, NONE, NONE}};
        for (int i = 0; i < 6; i++) {
            for (int what = 0; what < 4; what++) due("step", x.step(0, i, what), steps[i][what]);
        }
        due("step(0, 6, 0)", x.step(0, 6, 0), HIDDEN);
        due("step(0, -1, 0)", x.step(0, -1, 0), HIDDEN);
        due("step(0, 0, 4)", x.step(0, 0, 4), HIDDEN);
        due("step(0, 0, -1)", x.step(0, 0, -1), HIDDEN);
        due("step(1, 0, 0)", x.step(1, 0, 0), HIDDEN);
        due("step(-1, 0, 0)", x.step(-1, 0, 0), HIDDEN);
        due("step(4, 0, 0)", x.step(4, 0, 0), HIDDEN);
        tell(x, "w00:09", 1);
        due("step(1, 0, 3)", x.step(1, 0, 3), 9);
        feed(x, "c1;c2;x");
        x.fault(1);
        due("a fault leaves what is told", x.step(1, 0, 0), 2);
        due("a fault leaves what is told", x.step(0, 0, 1), 9);
    }

    private static void run() {
        LateStamps x = new LateStamps();
        tell(x, "o01;w00:5;o11;r10;c1;c0", 1);
        due("no STORE", x.run(0, 0), HIDDEN);
        tell(x, "k;k", 0);
        tell(x, "c0;o00", 1);
        tell(x, "o00;c0;o00;a0;r00;p", 1);
        due("all can be", x.run(0, 0), NONE);
        due("SURE", x.run(0, 1), 2);
        due("the first can't be", x.run(1, 0), 0);
        due("none SURE", x.run(1, 1), 0);
        due("the fifth can't be", x.run(2, 0), 4);
        due("who was SURE is gone", x.run(2, 1), 0);
        due("run(0, 2)", x.run(0, 2), HIDDEN);
        due("run(0, -1)", x.run(0, -1), HIDDEN);
        due("run(3, 0)", x.run(3, 0), HIDDEN);
        due("run(-1, 0)", x.run(-1, 0), HIDDEN);
        due("apart", x.all(11), 0);
        due("apart", x.count(5), 0);
        due("apart", x.count(4), 0);
        tell(x, "o80", 1);
        due("no such SEAT", x.run(3, 0), 0);
        x.open(7, 0);
        x.commit(7);
        due("from as it is now", x.run(0, 1), 3);
        x = store("k");
        tell(x, "o00;r01", 1);
        tell(x, "o02", 1);
        tell(x, "o00;o10;r10;w00:1;c0", 1);
        due("no such KEY", x.run(0, 0), 1);
        due("no such WAY", x.run(1, 0), 0);
        due("LATE can be, a COMMIT of one FALLEN can't", x.run(2, 0), 4);
        statusIs(x, 0, 0, 0, 0);
    }

    private static void perform() {
        LateStamps x = new LateStamps();
        tell(x, "o01;w00:5;c0;c0;p", 1);
        due("no STORE", x.perform(0), NONE);
        tell(x, "k", 0);
        due("up to there", x.perform(0), 3);
        due("done", x.asOf(0, 10), 5);
        due("ACTS", x.count(5), 3);
        statusIs(x, 0, 0, 0, 0);
        due("undone one by one", x.undo(), 2);
        due("ACTIVE", x.seat(0, 0), 1);
        due("taken", x.perform(0), 0);
        due("ACTS", x.count(5), 2);
        due("perform(1)", x.perform(1), NONE);
        due("perform(-1)", x.perform(-1), NONE);
        tell(x, "r00;a0;p", 1);
        due("all", x.perform(1), 3);
        logIs(x, 0, 6, NONE, 0);
        logIs(x, 1, 5, 0, 10);
        due("status", x.status(0) + x.status(2), 0);
    }

    private static void mix() {
        LateStamps x = new LateStamps();
        tell(x, "o01;r00;w00:7;c0", 1);
        tell(x, "o11;r10;w10:8;c1", 1);
        due("no STORE", x.mix(0, 1, 0), HIDDEN);
        tell(x, "k;k", 0);
        tell(x, "p;p;p;p;p;p;p", 1);
        due("rows", x.mix(0, 1, 0), 70);
        due("rows, with itself", x.mix(0, 0, 0), 70);
        due("with itself one wholly behind the other alone", x.mix(0, 0, 1), 2);
        due("the least", x.mix(0, 0, 2), 0x0F);
        due("mix(0, 2, 0)", x.mix(0, 2, 0), HIDDEN);
        due("mix(2, 0, 0)", x.mix(2, 0, 0), HIDDEN);
        due("mix(0, 3, 0)", x.mix(0, 3, 0), HIDDEN);
        due("mix(-1, 0, 0)", x.mix(-1, 0, 0), HIDDEN);
        due("mix(0, 1, 3)", x.mix(0, 1, 3), HIDDEN);
        due("mix(0, 1, -1)", x.mix(0, 1, -1), HIDDEN);
        tell(x, "p;p;p;p;p;p", 1);
        due("six and six", x.mix(3, 3, 0), 924);
        due("all are good", x.mix(3, 3, 1), 924);
        due("the least", x.mix(3, 3, 2), 0x3F);
        due("six and four", x.mix(3, 0, 0), 210);
        due("apart", x.all(11) + x.count(5) + x.count(4), 0);
        mixOfTwo();
    }

    private static void mixOfTwo() {
        LateStamps x = store("k");
        tell(x, "o01;r00", 1);
        tell(x, "o11;w10:1", 1);
        // Bits: of the rows 12, 10, 9, 6, 5, 3 the writer of an older stamp is LATE in 9 alone,
        // where it writes behind the reader: 9 is o1 o0 r0 w1.
        due("five of six", x.mix(0, 1, 1), 5);
        due("the first", x.mix(0, 1, 2), 3);
        due("the other way round", x.mix(1, 0, 1), 5);
        due("the first", x.mix(1, 0, 2), 3);
        tell(x, "o01;a0", 1);
        due("who ABORTS FALLS", x.mix(2, 1, 1), 0);
        due("none", x.mix(2, 1, 2), NONE);
        tell(x, "c7", 1);
        due("what can't be", x.mix(3, 0, 1), 0);
        x.open(7, 0);
        due("it can be now", x.mix(3, 0, 1), 3);
        x.open(6, 0);
        x.abort(6);
        due("who was FALLEN before does not count", x.mix(3, 0, 1), 3);
    }

    private static void odds() {
        LateStamps x = new LateStamps();
        due("no STORE", x.odds(0, 0), NONE);
        tell(x, "k;k", 0);
        due("nobody", x.odds(0, 0), 0);
        due("odds(8, 0)", x.odds(8, 0), NONE);
        due("odds(-1, 0)", x.odds(-1, 0), NONE);
        due("odds(0, -1)", x.odds(0, -1), NONE);
        due("odds(0, 101)", x.odds(0, 101), NONE);
        x.open(0, 1);
        x.open(1, 1);
        x.open(2, 1);
        x.write(0, 0, 1);
        x.write(1, 1, 1);
        x.read(1, 0);
        x.read(2, 1);
        due("odds(0, 0)", x.odds(0, 0), 1000000000);
        due("odds(2, 0)", x.odds(2, 0), 1000000000);
        due("odds(0, 100)", x.odds(0, 100), 0);
        due("odds(0, 10)", x.odds(0, 10), 900000000);
        due("odds(1, 10)", x.odds(1, 10), 810000000);
        due("odds(2, 10)", x.odds(2, 10), 729000000);
        due("cut", x.odds(2, 1), 970299000);
        x.open(3, 0);
        due("apart", x.seat(0, 0), 1);
        x.read(3, 1);
        due("DOOMED", x.odds(1, 0), 0);
        due("with it", x.odds(2, 0), 0);
        x.commit(0);
        due("SURE already", x.odds(0, 100), 1000000000);
        x.abort(1);
        due("FALLEN", x.odds(1, 0), 0);
        oddsAreCut();
    }

    private static void oddsAreCut() {
        LateStamps x = store("k");
        for (int seat = 0; seat < 8; seat++) x.open(seat, 1);
        // Each part is cut by itself: summed over the seats ahead, then what is left of each.
        long[] parts = {1000000000L};
        for (int seat = 0; seat < 7; seat++) {
            long[] next = new long[parts.length * 2];
            for (int i = 0; i < parts.length; i++) {
                next[2 * i] = parts[i] * 37 / 100;
                next[2 * i + 1] = parts[i] - next[2 * i];
            }
            parts = next;
        }
        long sure = 0;
        for (long part : parts) sure += part - part * 37 / 100;
        due("odds(7, 37)", x.odds(7, 37), sure);
        due("it is not just 63 hundredths", sure != 630000000L, true);
        x.write(0, 0, 1);
        for (int seat = 1; seat < 8; seat++) x.read(seat, 0);
        long all = 1000000000L;
        for (int seat = 0; seat < 8; seat++) all -= all * 37 / 100;
        due("each is drawn by itself, though it may have FALLEN", x.odds(0, 37), 630000000);
        long both = 630000000L - (630000000L * 37 / 100);
        due("odds(1, 37)", x.odds(1, 37), both);
        due("all are there", all > 0, true);
    }

    private static void shares() {
        LateStamps x = store("k;k;k");
        due("a third, cut", x.shares(0, 100), 33);
        due("shares(0, 0)", x.shares(0, 0), 0);
        due("shares(0, 999)", x.shares(0, 999), 333);
        due("all of one", store("k").shares(0, 7), 7);
        due("shares(0, 1000)", x.shares(0, 1000), NONE);
        due("shares(0, -1)", x.shares(0, -1), NONE);
        due("shares(3, 1)", x.shares(3, 1), NONE);
        due("shares(-1, 1)", x.shares(-1, 1), NONE);
        x.open(0, 0);
        x.write(0, 1, 1);
        due("two of four", x.shares(1, 999), 499);
        due("one of four", x.shares(2, 999), 249);
    }

    private static void all() {
        LateStamps x = store("k;k;k");
        int[] fresh = {0, 0, 0, 0, 0, 0, NONE, 0, NONE, 0, 0, 0, 0, 3};
        for (int what = 0; what < 14; what++) due("all(" + what + ")", x.all(what), fresh[what]);
        due("all(14)", x.all(14), HIDDEN);
        due("all(-1)", x.all(-1), HIDDEN);
        x.open(3, 0);
        due("WORST of one alone", x.all(8), 3);
        due("CHAIN of one alone", x.all(9), 1);
        x = chain();
        x.openAt(7, 0, 5);
        int[] then = {0x87, 24, 0, 0, 0, 7, 7, 0, 0, 3, 0, 50, 0, 6};
        for (int what = 0; what < 14; what++) due("all(" + what + ")", x.all(what), then[what]);
        x.write(7, 2, 1);
        due("FULLEST", x.all(7), 2);
        x.open(6, 0);
        x.read(6, 1);
        due("DOOMED", x.all(4), 2);
        x.commit(0);
        due("CHAIN", x.all(9), 2);
        due("WORST", x.all(8), 1);
        x.commit(7);
        due("OLDEST", x.all(6), 1);
        due("SURE", x.all(2), 0x81);
        due("SPARE", x.all(10), 2);
        due("UNSURE", x.all(5), 6);
        x.abort(1);
        due("FALLEN", x.all(3), 2 + 8 + 16);
        due("DOOMED and FALLEN", x.all(4), 0);
        due("UNSURE", x.all(5), 4);
        due("apart", x.count(4) > 0 && x.log(0, 0) == 5, true);
    }

    private static void image() {
        LateStamps x = new LateStamps();
        due("no STORE", x.image(), NONE);
        tell(x, "k", 0);
        due("image", x.image(), 0);
        x.open(0, 0);
        due("another instead", x.image(), 10);
        x.open(1, 0);
        due("back", x.back(), 10);
        due("of the second", x.seat(0, 0), 1);
        due("nobody", x.seat(1, 0), 0);
        due("no ACT", x.count(5), 0);
    }

    private static void back() {
        LateStamps x = store("k;k");
        due("no IMAGE", x.back(), NONE);
        x.open(0, 0);
        x.open(1, 1);
        x.openAt(2, 1, 5);
        x.write(0, 0, 3);
        x.read(1, 0);
        LateStamps y = store("k;k");
        y.open(0, 0);
        y.open(1, 1);
        y.openAt(2, 1, 5);
        y.write(0, 0, 3);
        y.read(1, 0);
        due("image", x.image(), 20);
        x.commit(1);
        x.abort(0);
        x.openAt(3, 0, 7);
        x.open(4, 0);
        x.abort(2);
        x.prune();
        for (int i = 0; i < 60; i++) x.prune();
        due("back", x.back(), 20);
        same(x, y);
        due("hands", x.count(3), 1);
        due("deed", x.deed(0, 0, 2), 3);
        due("readBy", x.readBy(1, 0), 10);
        due("no ACT can be UNDONE", x.count(5), 0);
        due("undo", x.undo(), NONE);
        due("7 is free again", x.openAt(3, 0, 7), 7);
        due("undo", x.undo(), 0);
        x.abort(1);
        due("again", x.back(), 20);
        same(x, y);
        tell(x, "k", 0);
        due("of another STORE", x.back(), NONE);
    }

    private static void count() {
        LateStamps x = new LateStamps();
        due("count(6)", x.count(6), HIDDEN);
        due("count(-1)", x.count(-1), HIDDEN);
        tell(x, "k;k;k;k", 0);
        tell(x, "p", 1);
        tell(x, "p;p", 1);
        feed(x, "abc");
        x.open(0, 0);
        x.open(1, 0);
        x.openAt(2, 0, 3);
        x.prune();
        x.abort(0);
        due("KEYS", x.count(0), 4);
        due("SCRIPTS", x.count(1), 2);
        due("bytes", x.count(2), 3);
        due("hands", x.count(3), 1);
        due("LOG", x.count(4), 5);
        due("ACTS", x.count(5), 5);
    }
}
