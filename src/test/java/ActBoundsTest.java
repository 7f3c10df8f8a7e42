import java.math.BigInteger;

/** ACTS and what they leave: each sentence that names a boundary case of promises 7 to 23, a test each. */
public final class ActBoundsTest {
    private static final int NONE = Kit.NONE;
    private static final int HIDDEN = Kit.HIDDEN;

    public static void main(String[] args) throws Exception {
        Kit.runAll(ActBoundsTest.class);
    }

    // ---- how the stores of these tests come to be ----

    /** Seat 0 is ACTIVE, 1 WAITING behind it, 2 SURE, 3 FALLEN, 4 to 7 are empty; stamps 10 to 40. */
    private static LateStamps oneOfEach() {
        LateStamps x = Kit.store("kv5;kv6");
        for (int seat = 0; seat < 4; seat++) x.open(seat, 1);
        x.write(0, 0, 7);
        x.read(1, 0);
        x.commit(1);
        x.commit(2);
        x.abort(3);
        return x;
    }

    /** The CLOCK goes on by so many STRIDES, at SEAT 0, by SCRIPTS of eight (an object has 512 calls alone). */
    private static void goOn(LateStamps x, int strides) {
        int script = Kit.tell(x, "o00;c0;o00;c0;o00;c0;o00;c0;o00;c0;o00;c0;o00;c0;o00;c0", 1);
        for (int i = 0; i < strides / 8; i++) x.perform(script);
        for (int i = 0; i < strides % 8; i++) {
            x.open(0, 0);
            x.commit(0);
        }
    }

    private static void eight(LateStamps x, int way) {
        for (int seat = 0; seat < 8; seat++) x.open(seat, way);
    }

    // ---- 7: seat ----

    @Kit.Sentence(promise = 7, says = "NoSuchElementException: no STORE, no such SEAT, nobody there (but for 0), no such what.")
    private static void seatThrowsForWhatIsNotThere() {
        LateStamps none = new LateStamps();
        for (int what = -1; what < 6; what++) Kit.thrown(none, 0, what);
        LateStamps x = oneOfEach();
        String before = Kit.look(x);
        for (int what = -1; what < 6; what++) {
            Kit.thrown(x, -1, what);
            Kit.thrown(x, 8, what);
        }
        Kit.due("nobody there", x.seat(4, 0), 0);
        Kit.due("nobody there", x.seat(7, 0), 0);
        for (int what = 1; what < 5; what++) Kit.thrown(x, 7, what);
        Kit.thrown(x, 0, 5);
        Kit.thrown(x, 0, -1);
        Kit.thrown(x, 7, 5);
        Kit.thrown(x, 7, -1);
        for (int far : Kit.FAR) {
            Kit.thrown(x, far, 0);
            Kit.thrown(x, 0, far);
        }
        Kit.due("nothing is changed", Kit.look(x).equals(before), true);
        Kit.statusIs(x, 0, 0, 0, 0);
    }

    @Kit.Sentence(promise = 0, says = "At each of eight SEATS (0 .. 7) is one TRANSACTION, or none")
    private static void thereAreEightSeats() {
        LateStamps x = Kit.store("k");
        for (int seat = 0; seat < 8; seat++) Kit.due("none", x.seat(seat, 0), 0);
        eight(x, 1);
        for (int seat = 0; seat < 8; seat++) Kit.due("its STAMP", x.seat(seat, 1), 10 * (seat + 1));
        Kit.due("all ACTIVE", x.all(0), 255);
    }

    @Kit.Sentence(promise = 0, says = "a STATE (1 ACTIVE, 2 WAITING, 3 SURE, 4 FALLEN; 0 for none)")
    private static void stateTellsEach() {
        LateStamps x = oneOfEach();
        int[] want = {1, 2, 3, 4, 0, 0, 0, 0};
        for (int seat = 0; seat < 8; seat++) Kit.due("STATE of " + seat, x.seat(seat, 0), want[seat]);
        for (int seat = 0; seat < 4; seat++) {
            Kit.due("STAMP", x.seat(seat, 1), 10 * (seat + 1));
            Kit.due("WAY", x.seat(seat, 2), 1);
            Kit.due("DEPENDS", x.seat(seat, 3), seat == 1 ? 1 : 0);
            Kit.due("DOOMED", x.seat(seat, 4), 0);
        }
    }

    @Kit.Sentence(promise = 0, says = "Who was at the SEAT, SURE or FALLEN, is gone.")
    private static void whoWasAtTheSeatIsGone() {
        LateStamps x = Kit.store("k;k");
        x.open(0, 1);
        x.open(1, 0);
        x.write(0, 0, 1);
        x.read(0, 1);
        x.read(1, 0);
        x.commit(0);
        Kit.due("DOOMED and FALLEN", x.seat(0, 0) * 10 + x.seat(0, 4), 41);
        Kit.due("open", x.open(0, 0), 30);
        Kit.due("ACTIVE", x.seat(0, 0), 1);
        Kit.due("WAY", x.seat(0, 2), 0);
        Kit.due("not DOOMED", x.seat(0, 4), 0);
        Kit.due("READ nothing", x.readBy(0, 1), NONE);
        Kit.due("no DEEDS", x.deed(0, 0, 0), HIDDEN);
        x.commit(1);
        Kit.due("at one SURE by hand", x.openAt(1, 1, 25), 25);
        Kit.due("STAMP", x.seat(1, 1), 25);
        Kit.due("READ nothing", x.readBy(1, 0), NONE);
        Kit.due("no DEEDS", x.deed(1, 0, 0), HIDDEN);
    }

    // ---- 8: readBy; 9: deed ----

    @Kit.Sentence(promise = 8, says = "NONE: none, nobody there, no such ones.")
    private static void readByTellsNone() {
        LateStamps none = new LateStamps();
        Kit.due("no STORE", none.readBy(0, 0), NONE);
        LateStamps x = oneOfEach();
        Kit.due("READ", x.readBy(1, 0), 10);
        Kit.leaves(x, NONE, () -> x.readBy(1, 1), () -> x.readBy(0, 0), () -> x.readBy(4, 0), () -> x.readBy(7, 1),
            () -> x.readBy(8, 0), () -> x.readBy(-1, 0), () -> x.readBy(1, 2), () -> x.readBy(1, 5),
            () -> x.readBy(1, 6), () -> x.readBy(1, -1));
        for (int far : Kit.FAR) {
            Kit.due("SEAT " + far, x.readBy(far, 0), NONE);
            Kit.due("KEY " + far, x.readBy(1, far), NONE);
        }
    }

    @Kit.Sentence(promise = 8, says = "the MARK of the VERSION of a KEY that the TRANSACTION at a SEAT READ last.")
    private static void readByTellsTheLastAlone() {
        LateStamps x = Kit.store("k;k;k;k;k;k");
        for (int seat = 0; seat < 3; seat++) x.open(seat, 1);
        x.read(2, 5);
        Kit.due("the first VERSION", x.readBy(2, 5), 0);
        x.read(2, 0);
        x.write(1, 1, 3);
        x.read(2, 1);
        Kit.due("the MARK", x.readBy(2, 1), 20);
        x.abort(1);
        Kit.due("it FELL with it, and tells still", x.readBy(2, 1), 20);
        Kit.due("another KEY", x.readBy(2, 5), 0);
        x.open(3, 0);
        x.open(4, 0);
        x.read(4, 0);
        Kit.due("the first", x.readBy(4, 0), 0);
        x.write(3, 1, 9);
        x.commit(3);
        x.read(4, 1);
        Kit.due("the sure one", x.readBy(4, 1), 40);
    }

    @Kit.Sentence(promise = 9, says = "2 the VALUE (NONE). HIDDEN: no such ones.")
    private static void deedHidesWhatIsNotThere() {
        Kit.due("no STORE", new LateStamps().deed(0, 0, 0), HIDDEN);
        LateStamps x = oneOfEach();
        Kit.due("WROTE", x.deed(0, 0, 0) * 100 + x.deed(0, 0, 1) * 10 + x.deed(0, 0, 2), 207);
        Kit.due("READ", x.deed(1, 0, 0) * 10 + x.deed(1, 0, 1), 10);
        Kit.due("no VALUE", x.deed(1, 0, 2), NONE);
        Kit.leaves(x, HIDDEN, () -> x.deed(0, 1, 0), () -> x.deed(0, -1, 0), () -> x.deed(0, 12, 0),
            () -> x.deed(0, 0, 3), () -> x.deed(0, 0, -1), () -> x.deed(2, 0, 0), () -> x.deed(7, 0, 0),
            () -> x.deed(8, 0, 0), () -> x.deed(-1, 0, 0));
        for (int far : Kit.FAR) {
            Kit.due("SEAT " + far, x.deed(far, 0, 0), HIDDEN);
            Kit.due("i " + far, x.deed(0, far, 0), HIDDEN);
            Kit.due("what " + far, x.deed(0, 0, far), HIDDEN);
        }
    }

    @Kit.Sentence(promise = 0, says = "its DEEDS: what it READ (a KEY) and WROTE (a KEY, a VALUE; LATE, too), in order, the first 12.")
    private static void deedsAreTheFirstTwelve() {
        LateStamps x = Kit.store("k;k;k;k;k;k");
        x.open(7, 0);
        x.open(6, 0);
        for (int i = 0; i < 11; i++) x.write(7, 5, 89 + i);
        Kit.due("eleven", x.deed(7, 10, 2), 99);
        Kit.due("no twelfth yet", x.deed(7, 11, 0), HIDDEN);
        x.read(7, 4);
        Kit.due("the twelfth", x.deed(7, 11, 0) * 10 + x.deed(7, 11, 1), 14);
        Kit.due("the thirteenth can be", x.write(7, 3, 1), 1);
        Kit.due("but is not kept", x.deed(7, 12, 0), HIDDEN);
        Kit.due("nor instead of another", x.deed(7, 11, 0) * 10 + x.deed(7, 11, 1), 14);
        Kit.due("the first", x.deed(7, 0, 2), 89);
        Kit.due("nothing came to the SEAT beside it", x.deed(6, 0, 0), HIDDEN);
        x.read(6, 0);
        Kit.due("LATE", x.write(7, 0, 9), -2);
        Kit.due("as the fourteenth not kept", x.deed(7, 11, 0), 1);
    }

    @Kit.Sentence(promise = 0, says = "its DEEDS: what it READ (a KEY) and WROTE (a KEY, a VALUE; LATE, too), in order, the first 12.")
    private static void whatIsLateIsADeedWhatIsRefusedIsNone() {
        LateStamps x = Kit.store("sm2;k;k");
        x.open(0, 0);
        x.open(1, 0);
        x.read(1, 0);
        x.write(1, 1, 4);
        x.read(0, 9);
        x.write(0, 0, 100);
        Kit.due("one VERSION too many", x.write(0, 1, 3), NONE);
        Kit.due("no DEED of what was refused", x.deed(0, 0, 0), HIDDEN);
        Kit.due("LATE", x.write(0, 0, 99), -2);
        Kit.due("WROTE", x.deed(0, 0, 0), 2);
        Kit.due("the VALUE", x.deed(0, 0, 2), 99);
        x.read(0, 0);
        Kit.due("no DEED of one FALLEN", x.deed(0, 1, 0), HIDDEN);
    }

    // ---- 10, 11: versions ----

    @Kit.Sentence(promise = 10, says = "How many VERSIONS a KEY has. NONE: no such one.")
    private static void versionsOfNoSuchKey() {
        Kit.due("no STORE", new LateStamps().versions(0), NONE);
        LateStamps x = oneOfEach();
        Kit.due("two", x.versions(0), 2);
        Kit.due("one", x.versions(1), 1);
        Kit.leaves(x, NONE, () -> x.versions(2), () -> x.versions(5), () -> x.versions(6), () -> x.versions(-1));
        for (int far : Kit.FAR) Kit.due("KEY " + far, x.versions(far), NONE);
        Kit.due("the sixth KEY", Kit.store("k;k;k;k;k;k").versions(5), 1);
    }

    @Kit.Sentence(promise = 11, says = "3 its SEAT (NONE: it is sure). HIDDEN: no such ones.")
    private static void versionHidesWhatIsNotThere() {
        Kit.due("no STORE", new LateStamps().version(0, 0, 0), HIDDEN);
        LateStamps x = oneOfEach();
        Kit.versionIs(x, 0, 0, 0, 5, 0, NONE);
        Kit.versionIs(x, 0, 1, 10, 7, 20, 0);
        Kit.leaves(x, HIDDEN, () -> x.version(0, 2, 0), () -> x.version(0, -1, 0), () -> x.version(0, 9, 0),
            () -> x.version(0, 0, 4), () -> x.version(0, 0, -1), () -> x.version(1, 1, 0), () -> x.version(2, 0, 0),
            () -> x.version(6, 0, 0), () -> x.version(-1, 0, 0));
        for (int far : Kit.FAR) {
            Kit.due("KEY " + far, x.version(far, 0, 0), HIDDEN);
            Kit.due("i " + far, x.version(0, far, 0), HIDDEN);
            Kit.due("what " + far, x.version(0, 0, far), HIDDEN);
        }
    }

    @Kit.Sentence(promise = 0, says = "0 for the first, which has VALUE as told and is sure")
    private static void theFirstVersion() {
        LateStamps x = Kit.store("kv99;k;kv0;k;k;kv1");
        int[] values = {99, 0, 0, 0, 0, 1};
        for (int key = 0; key < 6; key++) Kit.versionIs(x, key, 0, 0, values[key], 0, NONE);
        Kit.due("the CLOCK is 0", x.all(11), 0);
        Kit.due("the FLOOR is 0", x.all(12), 0);
    }

    @Kit.Sentence(promise = 11, says = "Of the i-th VERSION of a KEY, MARKS rising")
    private static void nineVersionsStandByTheirMarks() {
        LateStamps x = Kit.store("sm9;kv50;k;k;k;k;kv60");
        eight(x, 1);
        int[] order = {4, 7, 0, 3, 6, 1, 5, 2};
        for (int seat : order) Kit.due("one more", x.write(seat, 5, seat), 1);
        Kit.due("nine", x.versions(5), 9);
        Kit.versionIs(x, 5, 0, 0, 60, 0, NONE);
        for (int seat = 0; seat < 8; seat++) {
            int mark = 10 * (seat + 1);
            Kit.versionIs(x, 5, seat + 1, mark, seat, mark, seat);
        }
        Kit.due("the other KEYS", x.all(13), 5 + 9);
        x.abort(0);
        x.abort(7);
        Kit.due("seven", x.versions(5), 7);
        for (int seat = 1; seat < 7; seat++) {
            int mark = 10 * (seat + 1);
            Kit.versionIs(x, 5, seat, mark, seat, mark, seat);
        }
        Kit.due("no eighth", x.version(5, 7, 0), HIDDEN);
    }

    @Kit.Sentence(promise = 0, says = "its SEAT as long as it is not sure (it is as its TRANSACTION is SURE)")
    private static void aVersionIsSureAsItsTransactionIs() {
        LateStamps x = Kit.store("k;k;k");
        eight(x, 1);
        x.write(7, 2, 1);
        x.write(6, 0, 2);
        x.read(7, 0);
        Kit.due("WAITING", x.commit(7), 1);
        Kit.due("not sure yet", x.version(2, 1, 3), 7);
        x.commit(6);
        Kit.due("sure", x.version(0, 1, 3), NONE);
        Kit.due("sure, too", x.version(2, 1, 3), NONE);
    }

    // ---- 12: open ----

    @Kit.Sentence(promise = 12, says = "NONE: no STORE, SEAT (STATUS 0), WAY (1), the SEAT is taken by one ACTIVE or WAITING (2), the CLOCK (3).")
    private static void openWithoutStoreOrSeat() {
        LateStamps none = new LateStamps();
        Kit.refused(none, 0, () -> none.open(0, 0), () -> none.open(8, 2), () -> none.open(0, 2));
        LateStamps x = oneOfEach();
        Kit.refused(x, 0, () -> x.open(8, 0), () -> x.open(-1, 0), () -> x.open(8, 2), () -> x.open(-1, -1),
            () -> x.open(Integer.MAX_VALUE, 0), () -> x.open(Integer.MIN_VALUE, 0));
    }

    @Kit.Sentence(promise = 12, says = "NONE: no STORE, SEAT (STATUS 0), WAY (1), the SEAT is taken by one ACTIVE or WAITING (2), the CLOCK (3).")
    private static void openByNoSuchWay() {
        LateStamps x = oneOfEach();
        Kit.refused(x, 1, () -> x.open(4, 2), () -> x.open(4, -1), () -> x.open(0, 2), () -> x.open(1, -1),
            () -> x.open(4, Integer.MAX_VALUE), () -> x.open(4, Integer.MIN_VALUE));
    }

    @Kit.Sentence(promise = 12, says = "NONE: no STORE, SEAT (STATUS 0), WAY (1), the SEAT is taken by one ACTIVE or WAITING (2), the CLOCK (3).")
    private static void openAtATakenSeat() {
        LateStamps x = oneOfEach();
        Kit.refused(x, 2, () -> x.open(0, 0), () -> x.open(1, 0));
        Kit.due("SURE: it is free", x.open(2, 0), 50);
        Kit.due("FALLEN: it is free", x.open(3, 1), 60);
        Kit.due("the last SEAT", x.open(7, 1), 70);
    }

    @Kit.Sentence(promise = 0, says = "OPEN: the CLOCK is STRIDE more (9,999 at most), that is the STAMP.")
    private static void theClockReaches9999() {
        LateStamps x = Kit.store("st11;k");
        goOn(x, 908);
        Kit.due("the CLOCK", x.all(11), 9988);
        Kit.due("9,999 can be", x.open(1, 1), 9999);
        Kit.due("the STAMP", x.seat(1, 1), 9999);
        Kit.logIs(x, 0, 0, 1, 9999);
        Kit.refused(x, 3, () -> x.open(0, 0), () -> x.open(2, 1));
        Kit.refused(x, 2, () -> x.open(1, 0));
        Kit.due("by hand it can be", x.openAt(2, 0, 9998), 9998);
        x.abort(1);
        Kit.refused(x, 3, () -> x.retry(1));
        Kit.refused(x, 2, () -> x.retry(2));
        Kit.due("retries", x.retries(1), NONE);
        Kit.due("UNDO sets it back", x.undo() + x.undo() + x.undo(), 39 + 38 + 37);
        Kit.due("the CLOCK", x.all(11), 9988);
        Kit.due("again", x.open(1, 1), 9999);
    }

    @Kit.Sentence(promise = 0, says = "OPEN: the CLOCK is STRIDE more (9,999 at most), that is the STAMP.")
    private static void theClockStopsBelow10000() {
        LateStamps x = Kit.store("k");
        goOn(x, 999);
        Kit.due("the CLOCK", x.all(11), 9990);
        Kit.refused(x, 3, () -> x.open(0, 0));
        Kit.due("none goes on by a SCRIPT", x.perform(0), 0);
        Kit.due("nor by YEARS", x.years(40, 5), 9990);
        Kit.statusIs(x, 0, 0, 0, 1);
    }

    @Kit.Sentence(promise = 18, says = "NONE: no STORE, SEAT, nobody there (STATUS 0), not FALLEN (2), the CLOCK (3).")
    private static void theLastRetry() {
        LateStamps x = Kit.store("st20;k");
        goOn(x, 497);
        x.open(1, 0);
        x.read(1, 0);
        x.abort(1);
        Kit.due("the CLOCK", x.all(11), 9960);
        Kit.due("one can be", x.retries(1), 1);
        Kit.due("retry", x.retry(1), 1);
        Kit.due("its STAMP", x.seat(1, 1), 9980);
        x.abort(1);
        Kit.due("10,000 can't", x.retries(1), NONE);
        Kit.refused(x, 3, () -> x.retry(1));
    }

    // ---- 13: openAt ----

    @Kit.Sentence(promise = 13, says = "NONE: no STORE, SEAT (STATUS 0), WAY (1), the SEAT is taken, the STAMP can't be (2), 30 were (3).")
    private static void openAtWithoutStoreSeatOrWay() {
        LateStamps none = new LateStamps();
        Kit.refused(none, 0, () -> none.openAt(0, 0, 1), () -> none.openAt(8, 2, 0));
        LateStamps x = oneOfEach();
        Kit.refused(x, 0, () -> x.openAt(8, 0, 15), () -> x.openAt(-1, 0, 15), () -> x.openAt(8, 2, 0),
            () -> x.openAt(Integer.MAX_VALUE, 0, 15), () -> x.openAt(Integer.MIN_VALUE, 0, 15));
        Kit.refused(x, 1, () -> x.openAt(4, 2, 15), () -> x.openAt(4, -1, 15), () -> x.openAt(0, 2, 10),
            () -> x.openAt(4, Integer.MAX_VALUE, 15), () -> x.openAt(4, Integer.MIN_VALUE, 15));
    }

    @Kit.Sentence(promise = 13, says = "NONE: no STORE, SEAT (STATUS 0), WAY (1), the SEAT is taken, the STAMP can't be (2), 30 were (3).")
    private static void openAtATakenSeatByHand() {
        LateStamps x = oneOfEach();
        Kit.refused(x, 2, () -> x.openAt(0, 0, 15), () -> x.openAt(1, 1, 15));
        Kit.due("SURE: it is free", x.openAt(2, 0, 15), 15);
        Kit.due("FALLEN: it is free", x.openAt(3, 1, 16), 16);
        Kit.due("two", x.count(3), 2);
    }

    @Kit.Sentence(promise = 0, says = "a STAMP above the FLOOR, below the CLOCK, no multiple of STRIDE, by which none was OPENED yet")
    private static void stampsThatCantBe() {
        LateStamps fresh = Kit.store("k");
        Kit.refused(fresh, 2, () -> fresh.openAt(0, 0, 1), () -> fresh.openAt(0, 0, 0), () -> fresh.openAt(0, 0, -1));
        LateStamps x = oneOfEach();
        Kit.refused(x, 2, () -> x.openAt(4, 0, 0), () -> x.openAt(4, 0, -1), () -> x.openAt(4, 0, -15),
            () -> x.openAt(4, 0, 10), () -> x.openAt(4, 0, 30), () -> x.openAt(4, 0, 40), () -> x.openAt(4, 0, 41),
            () -> x.openAt(4, 0, 50), () -> x.openAt(4, 0, 55), () -> x.openAt(4, 0, Integer.MAX_VALUE),
            () -> x.openAt(4, 0, Integer.MIN_VALUE), () -> x.openAt(4, 0, Integer.MIN_VALUE + 1));
        Kit.due("the least", x.openAt(4, 0, 1), 1);
        Kit.due("the greatest", x.openAt(5, 0, 39), 39);
        Kit.refused(x, 2, () -> x.openAt(6, 0, 1), () -> x.openAt(6, 0, 39));
        x.abort(4);
        x.commit(5);
        Kit.refused(x, 2, () -> x.openAt(4, 0, 1), () -> x.openAt(5, 0, 39));
        Kit.due("the CLOCK stays", x.all(11), 40);
    }

    @Kit.Sentence(promise = 0, says = "a STAMP above the FLOOR, below the CLOCK, no multiple of STRIDE, by which none was OPENED yet")
    private static void noStampBelowTheFloor() {
        LateStamps x = Kit.store("st5;k");
        for (int seat = 0; seat < 4; seat++) x.open(seat, 0);
        x.openAt(4, 0, 8);
        x.abort(0);
        Kit.due("prune", x.prune(), 0);
        Kit.due("the FLOOR is a STAMP by hand", x.all(12), 8);
        Kit.refused(x, 2, () -> x.openAt(5, 0, 7), () -> x.openAt(5, 0, 8), () -> x.openAt(5, 0, 1));
        Kit.due("just above it", x.openAt(5, 0, 9), 9);
        for (int seat = 1; seat < 6; seat++) x.abort(seat);
        x.prune();
        Kit.due("the FLOOR is the CLOCK", x.all(12), 20);
        Kit.refused(x, 2, () -> x.openAt(5, 0, 19), () -> x.openAt(5, 0, 21));
    }

    @Kit.Sentence(promise = 0, says = "(30 are OPENED so at most)")
    private static void thirtyAreOpenedByHand() {
        LateStamps x = Kit.store("st20;k");
        x.open(0, 0);
        x.open(7, 0);
        for (int i = 1; i <= 30; i++) {
            int stamp = i < 20 ? i : i + 1;
            Kit.due("by hand", x.openAt(1, 0, stamp), stamp);
            Kit.due("so many", x.count(3), i);
            x.abort(1);
        }
        Kit.refused(x, 3, () -> x.openAt(1, 0, 32), () -> x.openAt(2, 1, 39));
        Kit.refused(x, 2, () -> x.openAt(1, 0, 31), () -> x.openAt(1, 0, 40), () -> x.openAt(0, 0, 32));
        Kit.refused(x, 1, () -> x.openAt(1, 2, 32));
        Kit.due("a RETRY is not by hand", x.retry(1), 0);
        Kit.due("its STAMP", x.seat(1, 1), 60);
        Kit.due("30 still", x.count(3), 30);
        x.undo();
        x.undo();
        x.undo();
        Kit.due("UNDONE: 29", x.count(3), 29);
        Kit.due("there is one more", x.openAt(1, 0, 32), 32);
        x.abort(1);
        Kit.refused(x, 3, () -> x.openAt(1, 0, 31));
    }

    // ---- 14: read ----

    @Kit.Sentence(promise = 14, says = "NONE: no STORE, SEAT, KEY, nobody there (STATUS 0), not ACTIVE (2).")
    private static void readOfWhatIsNotThere() {
        LateStamps none = new LateStamps();
        Kit.refused(none, 0, () -> none.read(0, 0), () -> none.read(8, 8));
        LateStamps x = oneOfEach();
        Kit.refused(x, 0, () -> x.read(8, 0), () -> x.read(-1, 0), () -> x.read(0, 2), () -> x.read(0, 6),
            () -> x.read(0, -1), () -> x.read(4, 0), () -> x.read(7, 0), () -> x.read(1, 2), () -> x.read(3, -1),
            () -> x.read(Integer.MAX_VALUE, 0), () -> x.read(0, Integer.MIN_VALUE));
    }

    @Kit.Sentence(promise = 14, says = "NONE: no STORE, SEAT, KEY, nobody there (STATUS 0), not ACTIVE (2).")
    private static void readByOneNotActive() {
        LateStamps x = oneOfEach();
        Kit.refused(x, 2, () -> x.read(1, 0), () -> x.read(2, 1), () -> x.read(3, 0));
    }

    @Kit.Sentence(promise = 0, says = "the VERSION with its own MARK, if there is one (nothing else is done then but LOG and DEEDS)")
    private static void itsOwnVersionIsReadAndLeftAsItIs() {
        for (int way = 0; way < 2; way++) {
            LateStamps x = Kit.store("kv5;k");
            for (int seat = 0; seat < 3; seat++) x.open(seat, way);
            x.write(0, 0, 1);
            x.write(1, 0, 2);
            x.write(2, 0, 3);
            Kit.due("its own", x.read(1, 0), 2);
            Kit.versionIs(x, 0, 2, 20, 2, 20, 1);
            Kit.due("READ none", x.readBy(1, 0), NONE);
            Kit.due("DEPENDS on none", x.seat(1, 3), 0);
            Kit.due("none is DOOMED", x.all(4), 0);
            Kit.logIs(x, 0, 1, 1, 20);
            Kit.due("a DEED", x.deed(1, 1, 0), 1);
        }
    }

    @Kit.Sentence(promise = 0, says = "that with the greatest MARK not above its STAMP, by WAY 0 of those that are sure")
    private static void theVersionOfItsStampIsRead() {
        LateStamps x = Kit.store("kv9");
        for (int seat = 0; seat < 5; seat++) x.open(seat, 1);
        x.write(1, 0, 2);
        x.write(3, 0, 4);
        Kit.due("not a newer one", x.read(0, 0), 9);
        Kit.due("the one ahead", x.read(2, 0), 2);
        Kit.due("the newest", x.read(4, 0), 4);
        x = Kit.store("kv9");
        for (int seat = 0; seat < 5; seat++) x.open(seat, 0);
        x.write(1, 0, 2);
        x.write(3, 0, 4);
        Kit.due("what is not sure is passed over", x.read(4, 0), 9);
        x = Kit.store("kv9");
        for (int seat = 0; seat < 5; seat++) x.open(seat, 0);
        x.write(1, 0, 2);
        x.write(3, 0, 4);
        x.commit(1);
        x.openAt(5, 0, 19);
        x.openAt(6, 0, 21);
        Kit.due("just below the MARK", x.read(5, 0), 9);
        Kit.due("just above it", x.read(6, 0), 2);
        Kit.due("the sure one", x.read(4, 0), 2);
    }

    @Kit.Sentence(promise = 0, says = "SEEN of that is its STAMP, if it was less")
    private static void seenIsTheGreatestStamp() {
        LateStamps x = Kit.store("k");
        eight(x, 0);
        x.read(3, 0);
        Kit.due("40", x.version(0, 0, 2), 40);
        x.read(1, 0);
        Kit.due("20 is less", x.version(0, 0, 2), 40);
        x.read(3, 0);
        Kit.due("40 again", x.version(0, 0, 2), 40);
        x.read(7, 0);
        Kit.due("80", x.version(0, 0, 2), 80);
        x.abort(7);
        Kit.due("80 still", x.version(0, 0, 2), 80);
        x = Kit.store("k;k;k;k;k;kv70");
        eight(x, 1);
        x.write(1, 5, 71);
        x.write(3, 5, 72);
        x.read(6, 5);
        x.read(5, 5);
        x.read(2, 5);
        x.read(0, 5);
        Kit.versionIs(x, 5, 0, 0, 70, 10, NONE);
        Kit.versionIs(x, 5, 1, 20, 71, 30, 1);
        Kit.versionIs(x, 5, 2, 40, 72, 70, 3);
    }

    @Kit.Sentence(promise = 0, says = "TRANSACTIONS of those VERSIONS of the KEY, not sure, whose MARKS lie between that MARK and its STAMP are DOOMED.")
    private static void doomedAreThoseBetweenAlone() {
        LateStamps x = Kit.store("kv5;k");
        eight(x, 0);
        x.write(0, 0, 1);
        x.write(1, 0, 2);
        x.write(2, 0, 3);
        x.write(4, 0, 5);
        x.write(7, 0, 8);
        x.write(5, 1, 6);
        x.commit(1);
        Kit.due("none yet", x.all(4), 0);
        Kit.due("the sure one by 20", x.read(6, 0), 2);
        Kit.due("30 and 50: not 10 below, 80 above, 60 of another KEY", x.all(4), 4 + 16);
        x = Kit.store("k");
        eight(x, 0);
        for (int seat = 0; seat < 3; seat++) x.write(seat, 0, 1);
        x.read(7, 0);
        Kit.due("from the first SEAT on", x.all(4), 7);
        x = Kit.store("kv5;k");
        eight(x, 1);
        x.write(0, 0, 1);
        x.write(2, 0, 3);
        x.read(1, 0);
        x.read(3, 0);
        Kit.due("WAY 1 dooms none", x.all(4), 0);
    }

    @Kit.Sentence(promise = 0, says = "TRANSACTIONS of those VERSIONS of the KEY, not sure, whose MARKS lie between that MARK and its STAMP are DOOMED.")
    private static void whoIsWaitingIsDoomedToo() {
        LateStamps x = Kit.store("k;k");
        x.open(0, 1);
        x.open(1, 1);
        x.open(2, 0);
        x.write(0, 0, 1);
        x.read(1, 0);
        x.write(1, 1, 1);
        x.commit(1);
        Kit.due("none yet", x.all(4), 0);
        x.read(2, 1);
        Kit.due("the WAITING one", x.all(4), 2);
        Kit.due("still WAITING", x.seat(1, 0), 2);
        Kit.due("told at its SEAT", x.seat(1, 4), 1);
    }

    @Kit.Sentence(promise = 0, says = "By WAY 1: is that VERSION not sure, DEPENDS has its SEAT.")
    private static void dependsHasWhoIsNotSure() {
        LateStamps x = Kit.store("k;k;k;k;k;k");
        eight(x, 1);
        for (int seat = 0; seat < 6; seat++) x.write(seat, seat, seat);
        x.commit(2);
        for (int key = 0; key < 6; key++) x.read(7, key);
        Kit.due("all but the sure one", x.seat(7, 3), 0x3B);
        x.read(7, 0);
        Kit.due("once each", x.seat(7, 3), 0x3B);
        Kit.due("on five", x.commit(7), 5);
        x = Kit.store("k");
        eight(x, 1);
        x.write(7, 0, 9);
        x.commit(0);
        x.open(0, 1);
        Kit.due("of the highest SEAT", x.read(0, 0), 9);
        Kit.due("bit 7", x.seat(0, 3), 128);
    }

    // ---- 15: write ----

    @Kit.Sentence(promise = 15, says = "NONE: no STORE, SEAT, KEY, nobody there (STATUS 0), VALUE (1), not ACTIVE (2), it would be one more than MOST and not LATE (3).")
    private static void writeOfWhatIsNotThere() {
        LateStamps none = new LateStamps();
        Kit.refused(none, 0, () -> none.write(0, 0, 1), () -> none.write(8, 8, 100));
        LateStamps x = oneOfEach();
        Kit.refused(x, 0, () -> x.write(8, 0, 1), () -> x.write(-1, 0, 1), () -> x.write(0, 2, 1),
            () -> x.write(0, 6, 1), () -> x.write(0, -1, 1), () -> x.write(4, 0, 1), () -> x.write(7, 0, 100),
            () -> x.write(0, 2, 100), () -> x.write(1, -1, -1), () -> x.write(Integer.MIN_VALUE, 0, 1),
            () -> x.write(0, Integer.MAX_VALUE, 1));
    }

    @Kit.Sentence(promise = 15, says = "NONE: no STORE, SEAT, KEY, nobody there (STATUS 0), VALUE (1), not ACTIVE (2), it would be one more than MOST and not LATE (3).")
    private static void writeOfNoSuchValue() {
        LateStamps x = oneOfEach();
        Kit.refused(x, 1, () -> x.write(0, 1, 100), () -> x.write(0, 1, -1), () -> x.write(0, 1, Integer.MAX_VALUE),
            () -> x.write(0, 1, Integer.MIN_VALUE), () -> x.write(1, 0, 100), () -> x.write(2, 0, -1),
            () -> x.write(3, 0, 100));
        Kit.due("99 can be", x.write(0, 1, 99), 1);
        Kit.due("0 can be", x.write(0, 1, 0), 0);
    }

    @Kit.Sentence(promise = 15, says = "NONE: no STORE, SEAT, KEY, nobody there (STATUS 0), VALUE (1), not ACTIVE (2), it would be one more than MOST and not LATE (3).")
    private static void writeByOneNotActive() {
        LateStamps x = oneOfEach();
        Kit.refused(x, 2, () -> x.write(1, 0, 1), () -> x.write(2, 0, 1), () -> x.write(3, 1, 1));
    }

    @Kit.Sentence(promise = 15, says = "NONE: no STORE, SEAT, KEY, nobody there (STATUS 0), VALUE (1), not ACTIVE (2), it would be one more than MOST and not LATE (3).")
    private static void aKeyHasMostVersionsAtMost() {
        for (int most = 2; most <= 8; most++) {
            LateStamps x = Kit.store("k;k;sm" + most);
            eight(x, 1);
            for (int i = 1; i < most; i++) Kit.due("one more", x.write(7 - i, 0, i), 1);
            Kit.due("MOST", x.versions(0), most);
            Kit.refused(x, 3, () -> x.write(7, 0, 1));
            Kit.due("its own can be", x.write(6, 0, 9), 0);
            Kit.due("another KEY can be", x.write(7, 1, 1), 1);
            x.abort(6);
            Kit.due("there is room again", x.write(7, 0, 1), 1);
        }
    }

    @Kit.Sentence(promise = 15, says = "NONE: no STORE, SEAT, KEY, nobody there (STATUS 0), VALUE (1), not ACTIVE (2), it would be one more than MOST and not LATE (3).")
    private static void whoIsLateFallsThoughTheKeyIsFull() {
        LateStamps x = Kit.store("sm2;k");
        x.open(0, 1);
        x.open(1, 1);
        x.open(2, 1);
        x.write(1, 0, 1);
        x.openAt(3, 1, 5);
        x.openAt(4, 1, 6);
        x.read(4, 0);
        Kit.due("full and LATE", x.write(3, 0, 1), -2);
        Kit.statusIs(x, 0, 0, 0, 0);
        Kit.due("FALLEN", x.seat(3, 0), 4);
        Kit.refused(x, 3, () -> x.write(0, 0, 1), () -> x.write(4, 0, 1));
    }

    @Kit.Sentence(promise = 0, says = "it is LATE, if some VERSION of the KEY with a MARK not above its STAMP has a SEEN above its STAMP: then it FALLS.")
    private static void lateIsBySeenAboveItsStamp() {
        LateStamps x = Kit.store("k;k");
        for (int seat = 0; seat < 4; seat++) x.open(seat, 1);
        x.read(1, 0);
        Kit.due("SEEN by its own STAMP is not above it", x.write(1, 0, 1), 1);
        Kit.due("SEEN above it", x.write(0, 0, 1), -2);
        Kit.due("it FALLS", x.seat(0, 0), 4);
        x.openAt(4, 1, 19);
        x.openAt(5, 1, 21);
        Kit.due("just below", x.write(4, 0, 1), -2);
        Kit.due("just above", x.write(5, 0, 1), 1);
        x.read(3, 0);
        Kit.due("its own VERSION was SEEN by 40", x.write(5, 0, 2), -2);
        Kit.due("who READ it FALLS, too", x.all(3), 1 + 8 + 16 + 32);
    }

    @Kit.Sentence(promise = 0, says = "it is LATE, if some VERSION of the KEY with a MARK not above its STAMP has a SEEN above its STAMP: then it FALLS.")
    private static void aNewerVersionThatWasReadMakesNoneLate() {
        LateStamps x = Kit.store("kv5;k");
        for (int seat = 0; seat < 4; seat++) x.open(seat, 1);
        x.write(1, 0, 2);
        x.read(3, 0);
        Kit.due("the first was not SEEN", x.write(0, 0, 1), 1);
        Kit.versionIs(x, 0, 1, 10, 1, 10, 0);
        Kit.versionIs(x, 0, 2, 20, 2, 40, 1);
        Kit.due("an older one that was SEEN does", x.write(2, 0, 3), -2);
        x = Kit.store("k;k");
        for (int seat = 0; seat < 3; seat++) x.open(seat, 1);
        x.read(2, 1);
        Kit.due("another KEY's SEEN is nothing", x.write(0, 0, 1), 1);
    }

    @Kit.Sentence(promise = 0, says = "it is LATE, if some VERSION of the KEY with a MARK not above its STAMP has a SEEN above its STAMP: then it FALLS.")
    private static void theNinthVersionOfTheKeyAheadIsNothing() {
        LateStamps x = Kit.store("sm9;k;k");
        eight(x, 1);
        for (int seat = 0; seat < 8; seat++) x.write(seat, 0, seat);
        x.commit(0);
        x.commit(1);
        x.open(0, 1);
        Kit.due("the ninth", x.read(0, 0), 7);
        Kit.versionIs(x, 0, 8, 80, 7, 90, 7);
        x.openAt(1, 0, 85);
        Kit.due("SINCE", x.since(1, 0) * 100 + x.since(1, 1), 191);
        Kit.due("read", x.read(1, 1), 0);
        Kit.due("none of another KEY is DOOMED", x.all(4), 0);
        Kit.due("nor is one LATE by it", x.write(1, 1, 5), 1);
    }

    @Kit.Sentence(promise = 15, says = "WRITE: 1 a VERSION more, 0 its own has another VALUE (or the same), -2 it is LATE (it FALLS).")
    private static void writeAnswersOneZeroOrMinusTwo() {
        LateStamps x = Kit.store("k");
        x.open(0, 1);
        x.open(1, 1);
        Kit.due("one more", x.write(0, 0, 5), 1);
        Kit.logIs(x, 0, 2, 0, 1);
        Kit.due("another VALUE", x.write(0, 0, 6), 0);
        Kit.logIs(x, 0, 2, 0, 0);
        Kit.due("the same", x.write(0, 0, 6), 0);
        Kit.due("one alone", x.versions(0), 2);
        Kit.versionIs(x, 0, 1, 10, 6, 10, 0);
        x.read(1, 0);
        Kit.due("LATE", x.write(0, 0, 7), -2);
        Kit.logIs(x, 2, 2, 0, -2);
        Kit.logIs(x, 1, 5, 0, 10);
        Kit.logIs(x, 0, 5, 1, 20);
        Kit.due("gone", x.versions(0), 1);
    }

    // ---- 16: commit ----

    @Kit.Sentence(promise = 16, says = "NONE: no STORE, SEAT, nobody there (STATUS 0), not ACTIVE (2).")
    private static void commitOfWhoIsNotThere() {
        LateStamps none = new LateStamps();
        Kit.refused(none, 0, () -> none.commit(0), () -> none.commit(8));
        LateStamps x = oneOfEach();
        Kit.refused(x, 0, () -> x.commit(8), () -> x.commit(-1), () -> x.commit(4), () -> x.commit(7),
            () -> x.commit(Integer.MAX_VALUE), () -> x.commit(Integer.MIN_VALUE));
        Kit.refused(x, 2, () -> x.commit(1), () -> x.commit(2), () -> x.commit(3));
    }

    @Kit.Sentence(promise = 16, says = "COMMIT: 0 it is SURE, on how many it DEPENDS (WAITING), -2 it FALLS.")
    private static void commitAnswersOnHowManyItDepends() {
        LateStamps x = Kit.store("k;k;k;k;k;k");
        eight(x, 1);
        for (int seat = 0; seat < 6; seat++) x.write(seat, seat, 1);
        for (int key = 0; key < 6; key++) x.read(7, key);
        Kit.due("on six", x.commit(7), 6);
        Kit.logIs(x, 0, 3, 7, 80);
        Kit.due("WAITING", x.seat(7, 0), 2);
        for (int seat = 5; seat >= 0; seat--) {
            Kit.due("WAITING still", x.seat(7, 0), 2);
            Kit.due("SURE", x.commit(seat), 0);
        }
        Kit.due("SURE behind the last", x.seat(7, 0), 3);
        Kit.due("with nothing done, SURE", x.commit(6), 0);
    }

    @Kit.Sentence(promise = 0, says = "To COMMIT (ACTIVE): is it DOOMED, it FALLS; else it is WAITING, and, does it DEPEND on none, SURE.")
    private static void whoIsDoomedFallsAtItsCommit() {
        LateStamps x = Kit.store("k;k");
        x.open(0, 1);
        x.open(1, 1);
        x.open(2, 0);
        x.write(0, 0, 1);
        x.write(1, 1, 1);
        x.read(1, 0);
        x.read(2, 1);
        Kit.due("DOOMED, it FALLS, though it DEPENDS", x.commit(1), -2);
        Kit.logIs(x, 0, 5, 1, 20);
        Kit.logIs(x, 1, 1, 2, 0);
        Kit.due("told so still", x.seat(1, 4), 1);
        Kit.due("DEPENDS on none", x.seat(1, 3), 0);
        Kit.due("no more among the DOOMED", x.all(4), 0);
        Kit.due("its VERSION is gone", x.versions(1), 1);
    }

    @Kit.Sentence(promise = 0, says = "then the lowest SEAT that is WAITING and DEPENDS on none is SURE (DOOMED: it FALLS), and so on.")
    private static void thoseBehindAreSureOrFallFromTheLowest() {
        LateStamps x = Kit.store("sp1;k;k;k");
        int[] seats = {7, 5, 3, 1, 6};
        for (int seat : seats) x.open(seat, 1);
        x.open(0, 0);
        x.write(7, 0, 1);
        x.read(5, 0);
        x.read(3, 0);
        x.write(3, 1, 1);
        x.read(1, 1);
        x.read(6, 0);
        x.write(6, 2, 1);
        x.commit(6);
        x.commit(1);
        x.commit(3);
        x.commit(5);
        x.read(0, 1);
        Kit.due("DOOMED", x.all(4), 8);
        Kit.due("SURE", x.commit(7), 0);
        // 7 is SURE; 3 is DOOMED and FALLS, 1 with it; 5 and 6 are SURE; a PRUNING behind each that is SURE.
        Kit.logIs(x, 8, 3, 7, 10);
        Kit.logIs(x, 7, 4, 7, 10);
        Kit.logIs(x, 6, 6, NONE, 1);
        Kit.logIs(x, 5, 5, 3, 30);
        Kit.logIs(x, 4, 5, 1, 40);
        Kit.logIs(x, 3, 4, 5, 20);
        Kit.logIs(x, 2, 6, NONE, 0);
        Kit.logIs(x, 1, 4, 6, 50);
        Kit.logIs(x, 0, 6, NONE, 1);
        Kit.due("SURE", x.all(2), 128 + 32 + 64);
        Kit.due("FALLEN", x.all(3), 8 + 2);
        Kit.due("ACTIVE", x.all(0), 1);
    }

    @Kit.Sentence(promise = 0, says = "To be SURE: its VERSIONS are sure; all others no longer DEPEND on its SEAT; by RULE p it is PRUNED")
    private static void allEightAreSureByOne() {
        LateStamps x = Kit.store("k;k");
        eight(x, 1);
        x.write(0, 0, 1);
        for (int seat = 7; seat > 0; seat--) {
            x.read(seat, 0);
            x.commit(seat);
        }
        Kit.due("sures", x.sures(0), 255);
        Kit.due("SURE", x.commit(0), 0);
        Kit.due("all", x.all(2), 255);
        for (int i = 0; i < 8; i++) Kit.logIs(x, i, 4, 7 - i, 80 - 10 * i);
        for (int seat = 0; seat < 8; seat++) Kit.due("DEPENDS on none", x.seat(seat, 3), 0);
        Kit.due("not PRUNED by RULE 0", x.versions(0), 2);
        Kit.due("FLOOR", x.all(12), 0);
    }

    @Kit.Sentence(promise = 0, says = "then the lowest SEAT that is WAITING and DEPENDS on none is SURE (DOOMED: it FALLS), and so on.")
    private static void theLowestSeatIsSureByTheHighest() {
        LateStamps x = Kit.store("k;k");
        for (int seat = 7; seat >= 0; seat--) x.open(seat, 1);
        x.write(7, 1, 1);
        for (int seat = 6; seat >= 0; seat--) {
            x.read(seat, 1);
            Kit.due("WAITING", x.commit(seat), 1);
        }
        Kit.due("SURE", x.commit(7), 0);
        Kit.logIs(x, 7, 4, 7, 10);
        for (int i = 0; i < 7; i++) Kit.logIs(x, i, 4, 6 - i, 20 + 10 * i);
        Kit.due("all", x.all(2), 255);
        for (int seat = 0; seat < 8; seat++) Kit.due("DEPENDS on none", x.seat(seat, 3), 0);
    }

    // ---- 17: abort ----

    @Kit.Sentence(promise = 17, says = "NONE: no STORE, SEAT, nobody there (STATUS 0), neither ACTIVE nor WAITING (2).")
    private static void abortOfWhoIsNotThere() {
        LateStamps none = new LateStamps();
        Kit.refused(none, 0, () -> none.abort(0), () -> none.abort(-1));
        LateStamps x = oneOfEach();
        Kit.refused(x, 0, () -> x.abort(8), () -> x.abort(-1), () -> x.abort(4), () -> x.abort(7),
            () -> x.abort(Integer.MAX_VALUE), () -> x.abort(Integer.MIN_VALUE));
        Kit.refused(x, 2, () -> x.abort(2), () -> x.abort(3));
        Kit.due("WAITING", x.abort(1), 1);
        Kit.due("ACTIVE", x.abort(0), 1);
    }

    @Kit.Sentence(promise = 17, says = "ABORT: how many FALL.")
    private static void allEightFallByOne() {
        LateStamps x = Kit.store("k;k");
        eight(x, 1);
        x.write(0, 0, 1);
        for (int seat = 1; seat < 8; seat++) x.read(seat, 0);
        x.commit(5);
        Kit.due("falls", x.falls(0), 255);
        Kit.due("alone", x.falls(7), 128);
        Kit.due("eight", x.abort(0), 8);
        for (int i = 0; i < 8; i++) Kit.logIs(x, i, 5, 7 - i, 80 - 10 * i);
        Kit.due("all", x.all(3), 255);
    }

    @Kit.Sentence(promise = 0, says = "then the lowest SEAT that DEPENDS on a FALLEN one FALLS, and so on (who is FALLEN DEPENDS on none; who was DOOMED is told so still).")
    private static void theyFallFromTheLowest() {
        LateStamps x = Kit.store("k;k;k");
        int[] seats = {6, 4, 5, 1, 2};
        for (int seat : seats) x.open(seat, 1);
        x.open(0, 0);
        x.write(6, 0, 1);
        x.read(4, 0);
        x.write(4, 1, 1);
        x.read(5, 0);
        x.read(1, 1);
        x.write(2, 2, 1);
        x.read(0, 1);
        Kit.due("four", x.abort(6), 4);
        // 6, then of 4 and 5 the lower one; then 1 behind 4 is the lowest; then 5.
        Kit.logIs(x, 3, 5, 6, 10);
        Kit.logIs(x, 2, 5, 4, 20);
        Kit.logIs(x, 1, 5, 1, 40);
        Kit.logIs(x, 0, 5, 5, 30);
        for (int seat : new int[] {6, 4, 1, 5}) Kit.due("DEPENDS on none", x.seat(seat, 3), 0);
        Kit.due("DOOMED still", x.seat(4, 4), 1);
        Kit.due("who DEPENDS on none of them stays", x.all(0), 4 + 1);
        Kit.due("VERSIONS are gone", x.versions(0) * 100 + x.versions(1) * 10 + x.versions(2), 112);
    }

    @Kit.Sentence(promise = 0, says = "then the lowest SEAT that DEPENDS on a FALLEN one FALLS, and so on")
    private static void theLowestSeatFallsByTheHighest() {
        LateStamps x = Kit.store("k;k");
        for (int seat = 7; seat >= 0; seat--) x.open(seat, 1);
        for (int seat = 7; seat >= 0; seat--) {
            if (seat < 7) x.read(seat, (seat + 1) % 2);
            x.write(seat, seat % 2, seat);
        }
        Kit.due("all in a row", x.abort(7), 8);
        for (int i = 0; i < 8; i++) Kit.logIs(x, i, 5, i, 80 - 10 * i);
        for (int seat = 0; seat < 8; seat++) Kit.due("DEPENDS on none", x.seat(seat, 3), 0);
        Kit.due("VERSIONS", x.all(13), 2);
    }

    @Kit.Sentence(promise = 0, says = "To FALL: its VERSIONS are gone")
    private static void whatIsGoneIsNoMoreLookedAt() {
        LateStamps x = Kit.store("k;k;k;k;k;k");
        for (int seat = 0; seat < 4; seat++) x.open(seat, 1);
        x.write(1, 5, 2);
        x.read(3, 5);
        Kit.due("both FALL", x.abort(1), 2);
        Kit.due("SINCE", x.since(5, 0), 1);
        Kit.due("all", x.since(5, 1), 41);
        Kit.due("20 was SEEN by 40, but is gone", x.would(2, 5, 1), 0);
        Kit.due("not LATE", x.write(2, 5, 3), 1);
        x.abort(2);
        Kit.due("its SEAT is taken by another one", x.open(2, 1), 50);
        x.open(4, 0);
        Kit.due("the first", x.read(4, 5), 0);
        Kit.due("the other one is not DOOMED", x.seat(2, 4), 0);
        Kit.due("one VERSION", x.versions(5), 1);
        Kit.due("READ by 60", x.would(2, 5, 1), 1);
    }

    // ---- 18: retry ----

    @Kit.Sentence(promise = 18, says = "NONE: no STORE, SEAT, nobody there (STATUS 0), not FALLEN (2), the CLOCK (3).")
    private static void retryOfWhoIsNotFallen() {
        LateStamps none = new LateStamps();
        Kit.refused(none, 0, () -> none.retry(0), () -> none.retry(8));
        LateStamps x = oneOfEach();
        Kit.refused(x, 0, () -> x.retry(8), () -> x.retry(-1), () -> x.retry(4), () -> x.retry(7),
            () -> x.retry(Integer.MAX_VALUE), () -> x.retry(Integer.MIN_VALUE));
        Kit.refused(x, 2, () -> x.retry(0), () -> x.retry(1), () -> x.retry(2));
        Kit.due("FALLEN, without DEEDS", x.retry(3), 0);
        Kit.due("ACTIVE", x.seat(3, 0), 1);
        Kit.refused(x, 2, () -> x.retry(3));
    }

    @Kit.Sentence(promise = 0, says = "at the SEAT one OPENS (the STAMP is as for OPEN) by the WAY that was, and does the DEEDS that were again, in order")
    private static void aRetryDoesTwelveDeedsAgain() {
        LateStamps x = Kit.store("kv5;k;k");
        x.open(0, 1);
        x.read(0, 0);
        for (int i = 1; i < 12; i++) x.write(0, 1, i);
        x.write(0, 2, 77);
        x.abort(0);
        Kit.due("twelve", x.retry(0), 12);
        Kit.due("STAMP", x.seat(0, 1), 20);
        Kit.due("WAY", x.seat(0, 2), 1);
        Kit.versionIs(x, 1, 1, 20, 11, 20, 0);
        Kit.due("the thirteenth was not kept", x.versions(2), 1);
        Kit.due("READ", x.readBy(0, 0), 0);
        Kit.due("SEEN", x.version(0, 0, 2), 20);
        Kit.logIs(x, 12, 0, 0, 20);
        Kit.logIs(x, 11, 1, 0, 0);
        Kit.logIs(x, 10, 2, 0, 1);
        for (int i = 0; i < 10; i++) Kit.logIs(x, i, 2, 0, 0);
        Kit.due("one ACT", x.count(5), 16);
        Kit.due("no 13th DEED", x.deed(0, 12, 0), HIDDEN);
        x.write(0, 2, 78);
        Kit.due("nor one more", x.deed(0, 11, 2), 11);
    }

    @Kit.Sentence(promise = 0, says = "by the WAY that was, and does the DEEDS that were again, in order")
    private static void aRetryAtTheLastSeatIsByItsOwnWay() {
        for (int way = 0; way < 2; way++) {
            LateStamps x = Kit.store("k;k;k;k;k;kv8");
            for (int seat = 0; seat < 7; seat++) x.open(seat, 1 - way);
            x.open(7, way);
            x.read(7, 5);
            x.write(7, 4, 99);
            x.write(7, 3, 0);
            x.abort(7);
            Kit.due("three", x.retry(7), 3);
            Kit.due("WAY", x.seat(7, 2), way);
            Kit.due("STAMP", x.seat(7, 1), 90);
            Kit.due("READ", x.deed(7, 0, 0) * 10 + x.deed(7, 0, 1), 15);
            Kit.due("WROTE", x.deed(7, 1, 1) * 100 + x.deed(7, 1, 2), 499);
            Kit.due("WROTE", x.deed(7, 2, 1) * 100 + x.deed(7, 2, 2), 300);
            Kit.due("no fourth", x.deed(7, 3, 0), HIDDEN);
            Kit.due("no DEEDS at the SEAT beside it", x.deed(6, 0, 0), HIDDEN);
            Kit.versionIs(x, 4, 1, 90, 99, 90, 7);
            Kit.versionIs(x, 3, 1, 90, 0, 90, 7);
        }
    }

    @Kit.Sentence(promise = 0, says = "until one can't be, or is LATE (it FALLS); its DEEDS are those that were.")
    private static void aRetryEndsAtWhatCantBe() {
        LateStamps x = Kit.store("sm2;k;k");
        x.open(0, 0);
        x.read(0, 1);
        x.write(0, 1, 3);
        x.write(0, 0, 4);
        x.read(0, 1);
        x.abort(0);
        x.open(1, 0);
        x.write(1, 0, 9);
        Kit.due("two, then the KEY is full", x.retry(0), 2);
        Kit.due("ACTIVE", x.seat(0, 0), 1);
        Kit.logIs(x, 0, 2, 0, 1);
        Kit.due("its DEEDS are those that were", x.deed(0, 3, 0), 1);
        Kit.due("no fifth", x.deed(0, 4, 0), HIDDEN);
        Kit.statusIs(x, 0, 0, 0, 0);
        x.abort(0);
        x.abort(1);
        Kit.due("all four", x.retry(0), 4);
        x.read(0, 0);
        Kit.due("one more DEED behind them", x.deed(0, 4, 1), 0);
    }

    @Kit.Sentence(promise = 0, says = "To RETRY (FALLEN): at the SEAT one OPENS")
    private static void aRetryIsAnotherTransaction() {
        LateStamps x = Kit.store("k;k");
        x.open(0, 1);
        x.open(1, 1);
        x.open(2, 0);
        x.write(0, 0, 1);
        x.read(1, 0);
        x.write(1, 1, 1);
        x.read(2, 1);
        Kit.due("both FALL", x.abort(0), 2);
        Kit.due("DOOMED", x.seat(1, 4), 1);
        Kit.due("two DEEDS", x.retry(1), 2);
        Kit.due("DOOMED no more", x.seat(1, 4), 0);
        Kit.due("DEPENDS on none", x.seat(1, 3), 0);
        Kit.due("READ anew", x.readBy(1, 0), 0);
        Kit.due("SURE", x.commit(1), 0);
    }

    // ---- 19: prune ----

    @Kit.Sentence(promise = 19, says = "NONE: no STORE (STATUS 0).")
    private static void pruneWithoutStore() {
        LateStamps none = new LateStamps();
        Kit.refused(none, 0, () -> none.prune());
        LateStamps x = Kit.store("k;k");
        Kit.due("nothing to take", x.prune(), 0);
        Kit.due("an ACT", x.count(5), 1);
        Kit.logIs(x, 0, 6, NONE, 0);
        Kit.due("FLOOR", x.all(12), 0);
        Kit.statusIs(x, 0, 0, 0, 0);
    }

    @Kit.Sentence(promise = 0, says = "the FLOOR is the least STAMP of those ACTIVE or WAITING (none: the CLOCK), if that is more than it was")
    private static void theFloorIsTheLeastStampOrTheClock() {
        LateStamps x = Kit.store("k");
        for (int seat = 0; seat < 4; seat++) x.open(seat, 1);
        x.write(1, 0, 1);
        x.read(3, 0);
        x.commit(3);
        x.commit(2);
        x.openAt(5, 1, 3);
        x.prune();
        Kit.due("by hand", x.all(12), 3);
        x.abort(5);
        x.prune();
        Kit.due("ACTIVE", x.all(12), 10);
        x.commit(0);
        x.prune();
        Kit.due("the next", x.all(12), 20);
        x.abort(1);
        x.prune();
        Kit.due("none: the CLOCK", x.all(12), 40);
        x.open(0, 0);
        Kit.due("it stays without a PRUNING", x.all(12), 40);
        x.prune();
        Kit.due("then 50", x.all(12), 50);
    }

    @Kit.Sentence(promise = 0, says = "the FLOOR is the least STAMP of those ACTIVE or WAITING (none: the CLOCK), if that is more than it was")
    private static void whoIsWaitingKeepsTheFloor() {
        LateStamps x = Kit.store("sp1;k");
        x.open(0, 1);
        x.open(1, 1);
        x.open(2, 1);
        x.write(0, 0, 1);
        x.read(1, 0);
        x.write(2, 0, 3);
        x.commit(2);
        Kit.due("the ACTIVE one keeps it", x.all(12), 10);
        Kit.due("WAITING", x.commit(1), 1);
        Kit.due("SURE", x.commit(0), 0);
        // Behind 0 the one of 20 is still WAITING, so 10 stays; behind 1 there is none.
        Kit.logIs(x, 3, 4, 0, 10);
        Kit.logIs(x, 2, 6, NONE, 1);
        Kit.logIs(x, 1, 4, 1, 20);
        Kit.logIs(x, 0, 6, NONE, 1);
        Kit.due("the CLOCK", x.all(12), 30);
    }

    @Kit.Sentence(promise = 0, says = "of VERSIONS of each KEY that are sure with a MARK not above the FLOOR all but the one with the greatest MARK are gone.")
    private static void whatLiesBelowTheFloorIsGone() {
        LateStamps x = Kit.store("sm9;kv1;kv2;k;k;k;kv6");
        for (int i = 0; i < 4; i++) {
            x.open(0, 1);
            x.write(0, 0, 10 + i);
            if (i == 2) x.write(0, 5, 66);
            x.commit(0);
        }
        x.open(1, 1);
        x.openAt(2, 1, 35);
        x.openAt(3, 1, 25);
        x.write(3, 0, 25);
        Kit.due("SPARE", x.all(10), 2);
        Kit.due("0, 10 are below 20, and 25 is not sure", x.prune(), 2);
        Kit.due("FLOOR", x.all(12), 25);
        Kit.versionIs(x, 0, 0, 20, 11, 20, NONE);
        Kit.versionIs(x, 0, 1, 25, 25, 25, 3);
        Kit.versionIs(x, 0, 2, 30, 12, 30, NONE);
        Kit.versionIs(x, 5, 0, 0, 6, 0, NONE);
        Kit.due("the one alone stays", x.versions(1), 1);
        x.abort(2);
        x.commit(3);
        Kit.due("25 is sure, 50 is the FLOOR: 40 stays", x.prune(), 3 + 1);
        Kit.versionIs(x, 0, 0, 40, 13, 40, NONE);
        Kit.versionIs(x, 5, 0, 30, 66, 30, NONE);
        x.write(1, 0, 50);
        x.commit(1);
        Kit.due("a MARK that is the FLOOR is not above it", x.prune(), 1);
        Kit.versionIs(x, 0, 0, 50, 50, 50, NONE);
        Kit.logIs(x, 0, 6, NONE, 1);
    }

    @Kit.Sentence(promise = 0, says = "of VERSIONS of each KEY that are sure with a MARK not above the FLOOR all but the one with the greatest MARK are gone.")
    private static void ofNineThatAreSureOneStays() {
        LateStamps x = Kit.store("sm9;kv50;k;k;k;k;kv60");
        eight(x, 1);
        for (int seat = 0; seat < 8; seat++) {
            x.write(seat, 5, seat);
            x.write(seat, 0, 10 + seat);
        }
        for (int seat = 7; seat >= 0; seat--) x.commit(seat);
        Kit.due("nine", x.versions(5) * 10 + x.versions(0), 99);
        Kit.due("the greatest", x.asOf(5, 80) * 100 + x.asOf(0, 80), 717);
        Kit.due("the one ahead of it", x.asOf(5, 79), 6);
        Kit.due("SPARE", x.all(10), 16);
        Kit.due("eight each", x.prune(), 16);
        Kit.versionIs(x, 5, 0, 80, 7, 80, NONE);
        Kit.versionIs(x, 0, 0, 80, 17, 80, NONE);
        Kit.due("one each", x.all(13), 6);
        Kit.due("as of the FLOOR", x.asOf(5, 80) * 100 + x.asOf(0, 80), 717);
    }

    @Kit.Sentence(promise = 0, says = "0 by hand alone, 1 behind each that is SURE, too")
    private static void byRuleOneItIsPrunedBehindEachSure() {
        LateStamps x = Kit.store("k");
        LateStamps y = Kit.store("sp1;k");
        for (LateStamps z : new LateStamps[] {x, y}) {
            z.open(0, 1);
            z.write(0, 0, 1);
            z.commit(0);
        }
        Kit.due("by hand alone", x.versions(0) * 100 + x.all(12), 200);
        Kit.logIs(x, 0, 4, 0, 10);
        Kit.due("behind each", y.versions(0) * 100 + y.all(12), 110);
        Kit.logIs(y, 0, 6, NONE, 1);
        Kit.logIs(y, 1, 4, 0, 10);
        Kit.due("no ACT by itself", y.count(5), 3);
        y.open(1, 1);
        y.abort(1);
        Kit.logIs(y, 0, 5, 1, 20);
        Kit.due("by hand, too", y.prune(), 0);
        Kit.due("FLOOR", y.all(12), 20);
    }

    // ---- 20: years ----

    private static BigInteger drawn;

    /** By numbers without bounds, taken modulo 2 to the 64: x goes round, and is shifted without sign. */
    private static int draw(int j) {
        drawn = drawn.multiply(new BigInteger("6364136223846793005")).add(new BigInteger("1442695040888963407"))
            .mod(BigInteger.ONE.shiftLeft(64));
        return drawn.shiftRight(33).mod(BigInteger.valueOf(j)).intValue();
    }

    private static void byHand(LateStamps x, int n, long seed, int keys) {
        drawn = BigInteger.valueOf(seed).mod(BigInteger.ONE.shiftLeft(64));
        for (int i = 0; i < n; i++) {
            int sort = draw(8);
            int seat = draw(8);
            if (sort == 0) x.open(seat, draw(2));
            else if (sort == 1 || sort == 2) x.read(seat, draw(keys));
            else if (sort == 3 || sort == 4) { int key = draw(keys); x.write(seat, key, draw(100)); }
            else if (sort == 5 || sort == 6) x.commit(seat);
            else x.abort(seat);
        }
    }

    @Kit.Sentence(promise = 20, says = "YEARS: the CLOCK. NONE: no STORE, out of bounds.")
    private static void yearsAreOneToForty() {
        LateStamps none = new LateStamps();
        Kit.leaves(none, NONE, () -> none.years(1, 1), () -> none.years(40, 1), () -> none.years(0, 1));
        LateStamps x = oneOfEach();
        Kit.leaves(x, NONE, () -> x.years(0, 1), () -> x.years(41, 1), () -> x.years(-1, 1),
            () -> x.years(Integer.MAX_VALUE, 1), () -> x.years(Integer.MIN_VALUE, 1));
        // With all eight ACTIVE nearly all that is drawn can be: one year more or less is seen.
        for (int n = 1; n <= 40; n++) {
            LateStamps y = Kit.store("k;k;k");
            LateStamps z = Kit.store("k;k;k");
            eight(y, 1);
            eight(z, 1);
            byHand(y, n, 77, 3);
            Kit.due("the CLOCK", z.years(n, 77), y.all(11));
            Kit.due(n + " as by hand", Kit.look(z).equals(Kit.look(y)), true);
        }
    }

    @Kit.Sentence(promise = 0, says = "(64 bits, going round); a draw of j: (x shifted right by 33, without sign) modulo j.")
    private static void drawsGoRound() {
        long[] seeds = {0, 1, -1, Long.MAX_VALUE, Long.MIN_VALUE, 1442695040888963407L, -6364136223846793005L, 1L << 33};
        for (long seed : seeds) {
            for (int keys = 1; keys <= 6; keys++) {
                String text = "st3;kv9" + ";k".repeat(keys - 1);
                LateStamps x = Kit.store(text);
                LateStamps y = Kit.store(text);
                eight(x, 0);
                eight(y, 0);
                byHand(x, 40, seed, keys);
                Kit.due("the CLOCK by seed " + seed, y.years(40, seed), x.all(11));
                Kit.due("as by hand", Kit.look(y).equals(Kit.look(x)), true);
            }
        }
    }

    @Kit.Sentence(promise = 0, says = "Each is an ACT; what can't be is left (no STATUS).")
    private static void whatCantBeInYearsIsLeft() {
        LateStamps x = Kit.store("k;k");
        LateStamps y = Kit.store("k;k");
        byHand(x, 40, 4, 2);
        y.years(40, 4);
        int refused = x.status(0) + x.status(1) + x.status(2) + x.status(3);
        Kit.due("by hand some are refused", refused > 0 && refused < 40, true);
        Kit.statusIs(y, 0, 0, 0, 0);
        Kit.due("each other is an ACT", y.count(5), 40 - refused);
        for (int i = 40 - refused; i > 0; i--) Kit.due("UNDONE one by one", y.undo(), i - 1);
        Kit.due("no more", y.undo(), NONE);
        Kit.due("as it was", Kit.look(y).equals(Kit.look(Kit.store("k;k"))), true);
    }

    // ---- 21: status ----

    @Kit.Sentence(promise = 21, says = "STATUS. NONE: no such what.")
    private static void statusHasFour() {
        LateStamps x = new LateStamps();
        Kit.statusIs(x, 0, 0, 0, 0);
        Kit.due("status(4)", x.status(4), NONE);
        Kit.due("status(-1)", x.status(-1), NONE);
        for (int far : Kit.FAR) Kit.due("status(" + far + ")", x.status(far), NONE);
    }

    @Kit.Sentence(promise = 0, says = "of several the first; not UNDONE.")
    private static void statusIsOfTheFirstAndNotUndone() {
        LateStamps x = oneOfEach();
        Kit.refused(x, 0, () -> x.open(8, 9), () -> x.openAt(-1, 9, 0), () -> x.read(1, 9), () -> x.write(5, 0, 100),
            () -> x.write(2, 9, 100));
        Kit.refused(x, 1, () -> x.open(0, 9), () -> x.openAt(0, 9, 0), () -> x.write(3, 0, 100));
        Kit.refused(x, 2, () -> x.openAt(0, 0, 0), () -> x.write(3, 0, 1));
        Kit.statusIs(x, 5, 3, 2, 0);
        x.undo();
        x.undo();
        Kit.statusIs(x, 5, 3, 2, 0);
        x.image();
        x.open(9, 9);
        x.back();
        Kit.statusIs(x, 6, 3, 2, 0);
        Kit.tell(x, "k", 0);
        Kit.statusIs(x, 6, 3, 2, 0);
    }

    @Kit.Sentence(promise = 0, says = "STATUS: how many ACTS were refused")
    private static void otherCallsCountInNoStatus() {
        LateStamps x = new LateStamps();
        x.undo();
        x.image();
        x.back();
        x.perform(0);
        x.years(1, 1);
        x.text(0);
        x.feed(-1, -1, -1, -1, -1);
        x.end(99);
        x.would(0, 0, 0);
        x.odds(9, 9);
        x.run(0, 0);
        x.mix(0, 0, 0);
        x.retries(0);
        Kit.statusIs(x, 0, 0, 0, 0);
        Kit.tell(x, "k", 0);
        Kit.tell(x, "c0", 1);
        x.perform(0);
        x.run(0, 0);
        x.mix(0, 0, 1);
        x.years(41, 1);
        x.back();
        x.undo();
        Kit.statusIs(x, 0, 0, 0, 0);
    }

    // ---- 22: undo ----

    @Kit.Sentence(promise = 22, says = "The latest ACT is UNDONE: how many still can be. NONE: none.")
    private static void nothingToUndo() {
        LateStamps none = new LateStamps();
        Kit.leaves(none, NONE, () -> none.undo());
        LateStamps x = Kit.store("k");
        Kit.leaves(x, NONE, () -> x.undo());
        x.open(0, 0);
        x.open(8, 0);
        Kit.due("what was refused is no ACT", x.undo(), 0);
        Kit.leaves(x, NONE, () -> x.undo(), () -> x.undo());
        Kit.due("nobody", x.seat(0, 0), 0);
        Kit.due("the CLOCK", x.all(11), 0);
    }

    @Kit.Sentence(promise = 0, says = "the latest 40 can be UNDONE one by one (the LOG, too).")
    private static void fortyCanBeUndone() {
        LateStamps x = Kit.store("k");
        for (int i = 1; i <= 39; i++) x.prune();
        Kit.due("39", x.count(5), 39);
        x.open(0, 0);
        Kit.due("40", x.count(5), 40);
        x.open(1, 0);
        Kit.due("40 still", x.count(5), 40);
        x.open(2, 0);
        for (int i = 39; i >= 0; i--) Kit.due("undo", x.undo(), i);
        Kit.due("no more", x.undo(), NONE);
        Kit.due("two are left", x.count(4), 2);
        Kit.logIs(x, 0, 6, NONE, 0);
        Kit.due("all SEATS are empty", x.all(0), 0);
    }

    @Kit.Sentence(promise = 0, says = "the latest 40 can be UNDONE one by one (the LOG, too).")
    private static void undoGoesRoundManyTimes() {
        LateStamps x = Kit.store("k");
        for (int turn = 1; turn <= 5; turn++) {
            for (int i = 0; i < 25; i++) x.prune();
            for (int i = 0; i < 15; i++) x.undo();
            x.open(turn, 0);
        }
        // Of turns 1 to 5 there are 11, 22, then 40 less 15 and 1 more; the LOG has 11 a turn.
        Kit.due("26", x.count(5), 26);
        Kit.due("LOG", x.count(4), 55);
        for (int turn = 5; turn >= 4; turn--) {
            Kit.due("the SEAT", x.seat(turn, 1), 10 * turn);
            x.undo();
            Kit.due("gone", x.seat(turn, 0), 0);
            for (int i = 0; i < 10; i++) x.undo();
        }
        Kit.due("the SEAT", x.seat(3, 1), 30);
        Kit.due("three more", x.undo(), 3);
        Kit.due("gone", x.seat(3, 0), 0);
        for (int i = 2; i >= 0; i--) Kit.due("undo", x.undo(), i);
        Kit.due("what came before stays", x.all(0), 2 + 4);
        Kit.due("no more", x.undo(), NONE);
    }

    @Kit.Sentence(promise = 22, says = "The latest ACT is UNDONE: how many still can be. NONE: none.")
    private static void eachSortOfActIsUndoneWhole() {
        undone("open", x -> x.open(5, 1));
        undone("open at one SURE", x -> x.open(2, 1));
        undone("openAt", x -> x.openAt(5, 1, 13));
        undone("read", x -> x.read(4, 0));
        undone("write", x -> x.write(4, 0, 1));
        undone("write, LATE", x -> x.write(0, 0, 8));
        undone("commit with those behind it", x -> x.commit(0));
        undone("abort", x -> x.abort(0));
        undone("retry", x -> x.retry(3));
        undone("prune", x -> x.prune());
    }

    @Kit.Sentence(promise = 22, says = "The latest ACT is UNDONE: how many still can be. NONE: none.")
    private static void whatAnActBringsWithItIsUndoneToo() {
        LateStamps x = oneOfEach();
        x.open(4, 0);
        x.read(4, 0);
        undone("commit of one DOOMED", x, y -> y.commit(0));
        LateStamps pruned = Kit.store("sp1;k");
        pruned.open(0, 0);
        pruned.write(0, 0, 3);
        undone("commit with its PRUNING", pruned, y -> y.commit(0));
        LateStamps again = oneOfEach();
        again.write(0, 1, 3);
        undone("write its own", again, y -> y.write(0, 1, 4));
        LateStamps redone = oneOfEach();
        redone.abort(0);
        undone("retry with its DEEDS", redone, y -> y.retry(1));
    }

    private interface Act {
        int on(LateStamps x);
    }

    private static void undone(String act, Act call) {
        LateStamps x = oneOfEach();
        x.open(4, 0);
        undone(act, x, call);
    }

    private static void undone(String act, LateStamps x, Act call) {
        int before = x.count(5);
        String was = Kit.look(x);
        call.on(x);
        Kit.due(act + " is an ACT", x.count(5), before + 1);
        Kit.due(act + " is UNDONE", x.undo(), before);
        Kit.due(act + ": all is as it was", Kit.look(x).equals(was), true);
    }

    // ---- 23: log ----

    @Kit.Sentence(promise = 23, says = "0 sort, 1 SEAT, 2 number. HIDDEN: no such ones.")
    private static void logHidesWhatIsNotThere() {
        Kit.due("no STORE", new LateStamps().log(0, 0), HIDDEN);
        Kit.due("nothing yet", Kit.store("k").log(0, 0), HIDDEN);
        LateStamps x = oneOfEach();
        Kit.due("nine", x.count(4), 10);
        Kit.logIs(x, 0, 5, 3, 40);
        Kit.logIs(x, 9, 0, 0, 10);
        Kit.leaves(x, HIDDEN, () -> x.log(10, 0), () -> x.log(60, 0), () -> x.log(-1, 0), () -> x.log(0, 3),
            () -> x.log(0, -1));
        for (int far : Kit.FAR) {
            Kit.due("i " + far, x.log(far, 0), HIDDEN);
            Kit.due("what " + far, x.log(0, far), HIDDEN);
        }
    }

    @Kit.Sentence(promise = 0, says = "the latest 60, in the order in which they come")
    private static void theLogHasTheLatestSixty() {
        LateStamps x = Kit.store("st2;k");
        x.open(0, 0);
        x.read(0, 0);
        for (int i = 0; i < 58; i++) x.prune();
        Kit.due("60", x.count(4), 60);
        Kit.logIs(x, 59, 0, 0, 2);
        x.open(1, 0);
        Kit.due("60 still", x.count(4), 60);
        Kit.logIs(x, 0, 0, 1, 4);
        Kit.logIs(x, 59, 1, 0, 0);
        Kit.due("no 61st", x.log(60, 0), HIDDEN);
        x.undo();
        Kit.logIs(x, 59, 0, 0, 2);
        Kit.logIs(x, 0, 6, NONE, 0);
        for (int i = 0; i < 150; i++) x.prune();
        x.open(7, 1);
        Kit.logIs(x, 0, 0, 7, 4);
        for (int i = 1; i < 60; i++) Kit.due("a PRUNING", x.log(i, 0), 6);
    }

    @Kit.Sentence(promise = 0, says = "(of a LATE WRITE, then its FALL; of a COMMIT: WAITING, then SURE, the PRUNING of that, those behind it).")
    private static void theLogHasTheOrderOfEach() {
        LateStamps x = Kit.store("sp1;k;k");
        x.open(0, 1);
        x.open(1, 1);
        x.write(0, 0, 1);
        x.read(1, 0);
        x.commit(1);
        x.commit(0);
        Kit.logIs(x, 5, 3, 1, 20);
        Kit.logIs(x, 4, 3, 0, 10);
        Kit.logIs(x, 3, 4, 0, 10);
        Kit.logIs(x, 2, 6, NONE, 1);
        Kit.logIs(x, 1, 4, 1, 20);
        Kit.logIs(x, 0, 6, NONE, 0);
        x.open(0, 0);
        x.open(1, 0);
        x.read(1, 1);
        x.write(0, 1, 1);
        Kit.logIs(x, 1, 2, 0, -2);
        Kit.logIs(x, 0, 5, 0, 30);
    }

    // ---- the whole ----

    @Kit.Sentence(promise = 0, says = "An object is used for at most 512 calls after it has been made")
    private static void the512thCallAnswersStill() {
        LateStamps x = new LateStamps();
        x.feed(Kit.word("st2;"), 0x6B000000, 0, 0, 0);
        x.text(0);
        int calls = 2;
        for (int i = 0; i < 127; i++) {
            x.open(i % 8, 1);
            x.write(i % 8, 0, i % 100);
            x.commit(i % 8);
            x.prune();
            calls += 4;
        }
        Kit.due("the 511th", x.open(3, 0), 256);
        Kit.due("the 512th", x.read(3, 0), 26);
        Kit.due("512", calls + 2, 512);
    }

    @Kit.Sentence(promise = 0, says = "What is refused answers as told and changes nothing but STATUS.")
    private static void aRefusalLeavesUndoAndImage() {
        LateStamps x = oneOfEach();
        x.image();
        x.open(4, 1);
        x.open(9, 0);
        x.write(4, 0, 100);
        x.commit(2);
        Kit.due("UNDO is of the ACT ahead of them", x.undo(), 9);
        Kit.due("nobody", x.seat(4, 0), 0);
        x.open(4, 5);
        Kit.due("the IMAGE stays", x.back(), 40);
        LateStamps y = oneOfEach();
        y.image();
        y.back();
        Kit.due("and is as it was", Kit.look(x).equals(Kit.look(y)), true);
    }
}
