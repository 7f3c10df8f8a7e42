/** What is asked, scripts, images: each sentence that names a boundary case of promises 24 to 39, a test each. */
public final class AskBoundsTest {
    private static final int NONE = Kit.NONE;
    private static final int HIDDEN = Kit.HIDDEN;
    private static final int ALL = 1000000000;

    public static void main(String[] args) throws Exception {
        Kit.runAll(AskBoundsTest.class);
    }

    // ---- how the stores of these tests come to be ----

    /** Seat 0 is ACTIVE, 1 WAITING behind it, 2 SURE, 3 FALLEN, 4 to 7 are empty; stamps 10 to 40. */
    private static LateStamps oneOfEach() {
        LateStamps x = Kit.store("kv5;kv6");
        for (int seat = 0; seat < 4; seat++) x.open(seat, 1);
        x.write(0, 0, 7);
        x.read(1, 0);
        x.commit(1);
        x.commit(2);
        x.abort(3);
        return x;
    }

    private static void eight(LateStamps x, int way) {
        for (int seat = 0; seat < 8; seat++) x.open(seat, way);
    }

    /** Each of the eight SEATS but 0 DEPENDS on the one below it. */
    private static LateStamps inARow() {
        LateStamps x = Kit.store("k;k");
        eight(x, 1);
        for (int seat = 0; seat < 8; seat++) {
            if (seat > 0) x.read(seat, (seat - 1) % 2);
            x.write(seat, seat % 2, seat);
        }
        return x;
    }

    /** The other way round: each of the eight SEATS but 7 DEPENDS on the one above it. */
    private static LateStamps inARowDown() {
        LateStamps x = Kit.store("k;k");
        for (int seat = 7; seat >= 0; seat--) x.open(seat, 1);
        for (int seat = 7; seat >= 0; seat--) {
            if (seat < 7) x.read(seat, (seat + 1) % 2);
            x.write(seat, seat % 2, seat);
        }
        return x;
    }

    private static String steps(int many) {
        return "p" + ";p".repeat(many - 1);
    }

    // ---- 24: would ----

    @Kit.Sentence(promise = 24, says = "NONE: nobody ACTIVE there, no such ones.")
    private static void wouldOfWhoIsNotActive() {
        Kit.due("no STORE", new LateStamps().would(0, 0, 0), NONE);
        LateStamps x = oneOfEach();
        Kit.due("ACTIVE", x.would(0, 1, 0), 0);
        Kit.leaves(x, NONE, () -> x.would(1, 0, 0), () -> x.would(2, 0, 0), () -> x.would(3, 0, 1),
            () -> x.would(4, 0, 0), () -> x.would(7, 0, 1), () -> x.would(8, 0, 0), () -> x.would(-1, 0, 0),
            () -> x.would(0, 2, 0), () -> x.would(0, 6, 1), () -> x.would(0, -1, 0), () -> x.would(0, 0, 2),
            () -> x.would(0, 0, -1));
        for (int far : Kit.FAR) {
            Kit.due("SEAT " + far, x.would(far, 0, 0), NONE);
            Kit.due("KEY " + far, x.would(0, far, 0), NONE);
            Kit.due("what " + far, x.would(0, 0, far), NONE);
        }
    }

    @Kit.Sentence(promise = 24, says = "WOULD: the MARK (0), whether it would be LATE (1).")
    private static void wouldTellsAndDoesNothing() {
        LateStamps x = Kit.store("k;k;k;k;k;k");
        x.open(0, 1);
        x.open(1, 0);
        x.open(2, 1);
        x.open(3, 0);
        x.write(0, 5, 1);
        x.write(3, 5, 4);
        Kit.leaves(x, 10, () -> x.would(0, 5, 0), () -> x.would(2, 5, 0));
        Kit.leaves(x, 0, () -> x.would(1, 5, 0), () -> x.would(1, 5, 1), () -> x.would(0, 5, 1));
        Kit.leaves(x, 40, () -> x.would(3, 5, 0));
        x.read(1, 0);
        Kit.due("by its own STAMP", x.would(1, 0, 1), 0);
        Kit.due("by a newer one", x.would(2, 0, 1), 0);
        Kit.due("LATE", x.would(0, 0, 1), 1);
        x.read(2, 5);
        Kit.due("LATE for what is its own", x.would(0, 5, 1), 1);
        Kit.due("LATE between", x.would(1, 5, 1), 1);
        Kit.due("who READ it", x.would(2, 5, 1), 0);
        Kit.due("behind it", x.would(3, 5, 1), 0);
    }

    @Kit.Sentence(promise = 24, says = "WOULD: the MARK (0), whether it would be LATE (1).")
    private static void wouldBeLateThoughTheKeyIsFull() {
        LateStamps x = Kit.store("sm2;k");
        x.open(0, 1);
        x.open(1, 1);
        x.write(1, 0, 1);
        Kit.leaves(x, 0, () -> x.would(0, 0, 1));
        x.openAt(2, 1, 15);
        x.read(2, 0);
        Kit.leaves(x, 1, () -> x.would(0, 0, 1));
    }

    // ---- 25: since ----

    @Kit.Sentence(promise = 25, says = "NONE: no such KEY, no such what.")
    private static void sinceOfNoSuchKey() {
        Kit.due("no STORE", new LateStamps().since(0, 0), NONE);
        LateStamps x = oneOfEach();
        Kit.due("the last KEY", x.since(1, 0), 1);
        Kit.leaves(x, NONE, () -> x.since(2, 0), () -> x.since(6, 1), () -> x.since(-1, 0), () -> x.since(0, 2),
            () -> x.since(0, -1));
        for (int far : Kit.FAR) {
            Kit.due("KEY " + far, x.since(far, 0), NONE);
            Kit.due("what " + far, x.since(0, far), NONE);
        }
    }

    @Kit.Sentence(promise = 0, says = "the least STAMP, from 1 up to the CLOCK and 1, by which one, WRITING it, would not be LATE; of these how many there are.")
    private static void sinceGoesFromOneToTheClockAndOne() {
        LateStamps x = Kit.store("k;k;k");
        Kit.leaves(x, 1, () -> x.since(0, 0), () -> x.since(0, 1));
        x.open(0, 1);
        Kit.due("1", x.since(0, 0), 1);
        Kit.due("1 .. 11", x.since(0, 1), 11);
        x.read(0, 0);
        Kit.due("the CLOCK", x.since(0, 0), 10);
        Kit.due("10, 11", x.since(0, 1), 2);
        x.openAt(1, 1, 1);
        x.read(1, 1);
        Kit.due("SEEN by 1: not LATE by 1", x.since(1, 0), 1);
        Kit.due("all", x.since(1, 1), 11);
        x.openAt(2, 1, 2);
        x.read(2, 1);
        Kit.due("SEEN by 2: LATE by 1", x.since(1, 0), 2);
        Kit.due("all but 1", x.since(1, 1), 10);
    }

    @Kit.Sentence(promise = 25, says = "SINCE: the STAMP (0; the CLOCK and 1 never is LATE), how many (1).")
    private static void sinceLeavesOutWhatIsLateBetween() {
        LateStamps x = Kit.store("k;k");
        eight(x, 1);
        x.write(1, 0, 1);
        x.write(4, 0, 1);
        x.read(3, 0);
        x.read(7, 0);
        // The first is SEEN by 0, 20 by 40, 50 by 80: LATE are 20 .. 39 and 50 .. 79.
        Kit.leaves(x, 1, () -> x.since(0, 0));
        Kit.leaves(x, 81 - 20 - 30, () -> x.since(0, 1));
        x.commit(0);
        x.openAt(0, 1, 15);
        x.read(0, 0);
        Kit.due("from 15 on", x.since(0, 0), 15);
        Kit.due("without 1 .. 14, too", x.since(0, 1), 81 - 14 - 20 - 30);
        x.read(7, 1);
        Kit.due("80", x.since(1, 0), 80);
        Kit.due("80, 81", x.since(1, 1), 2);
    }

    @Kit.Sentence(promise = 25, says = "SINCE: the STAMP (0; the CLOCK and 1 never is LATE), how many (1).")
    private static void sinceOfEachKeyByItsOwnVersions() {
        LateStamps x = Kit.store("k;k;k;k;k;k");
        eight(x, 1);
        for (int key = 0; key < 6; key++) {
            x.write(key, key, 1);
            x.read(7, key);
        }
        for (int key = 0; key < 6; key++) {
            // From the MARK up to 79 one is LATE.
            Kit.due("the least", x.since(key, 0), 1);
            Kit.due("how many", x.since(key, 1), 10 * (key + 1) - 1 + 2);
        }
    }

    @Kit.Sentence(promise = 25, says = "SINCE: the STAMP (0; the CLOCK and 1 never is LATE), how many (1).")
    private static void sinceBelowTheFirstVersionThatIsLeft() {
        LateStamps x = Kit.store("k");
        x.open(0, 1);
        x.read(0, 0);
        x.write(0, 0, 1);
        x.commit(0);
        x.open(1, 1);
        x.read(1, 0);
        Kit.due("10 .. 19 are LATE, 1 .. 9, too", x.since(0, 0), 20);
        Kit.due("20, 21", x.since(0, 1), 2);
        Kit.due("the first is gone", x.prune(), 1);
        Kit.due("nobody has read what is no more", x.since(0, 0), 1);
        Kit.due("1 .. 9, 20, 21", x.since(0, 1), 11);
    }

    // ---- 26: falls; 27: sures; 28: retries ----

    @Kit.Sentence(promise = 26, says = "NONE: neither ACTIVE nor WAITING there, no such SEAT.")
    private static void fallsOfWhoCantFall() {
        Kit.due("no STORE", new LateStamps().falls(0), NONE);
        LateStamps x = oneOfEach();
        Kit.leaves(x, 3, () -> x.falls(0));
        Kit.leaves(x, 2, () -> x.falls(1));
        Kit.leaves(x, NONE, () -> x.falls(2), () -> x.falls(3), () -> x.falls(4), () -> x.falls(7), () -> x.falls(8),
            () -> x.falls(-1));
        for (int far : Kit.FAR) Kit.due("SEAT " + far, x.falls(far), NONE);
    }

    @Kit.Sentence(promise = 0, says = "SEATS (bits) that would FALL if it were to ABORT.")
    private static void fallsInARow() {
        LateStamps x = inARow();
        for (int seat = 0; seat < 8; seat++) Kit.due("all behind " + seat, x.falls(seat), 255 & -1 << seat);
        for (int seat = 0; seat < 8; seat++) Kit.due("still ACTIVE", x.seat(seat, 0), 1);
        Kit.due("so many FALL", x.abort(3), 5);
        Kit.due("those", x.all(3), 255 & -1 << 3);
        Kit.due("the others", x.falls(0), 7);
        x = inARowDown();
        for (int seat = 0; seat < 8; seat++) Kit.due("all behind " + seat, x.falls(seat), (2 << seat) - 1);
        Kit.due("so many FALL", x.abort(3), 4);
        Kit.due("those", x.all(3), 15);
    }

    @Kit.Sentence(promise = 27, says = "NONE: nobody ACTIVE there, no such SEAT.")
    private static void suresOfWhoCantCommit() {
        Kit.due("no STORE", new LateStamps().sures(0), NONE);
        LateStamps x = oneOfEach();
        Kit.leaves(x, 3, () -> x.sures(0));
        Kit.leaves(x, NONE, () -> x.sures(1), () -> x.sures(2), () -> x.sures(3), () -> x.sures(4), () -> x.sures(7),
            () -> x.sures(8), () -> x.sures(-1));
        for (int far : Kit.FAR) Kit.due("SEAT " + far, x.sures(far), NONE);
    }

    @Kit.Sentence(promise = 0, says = "SEATS (bits) that would be SURE by it if it were to COMMIT.")
    private static void suresInARow() {
        LateStamps x = inARow();
        Kit.leaves(x, 1, () -> x.sures(0));
        for (int seat = 1; seat < 8; seat++) Kit.due("it would be WAITING", x.sures(seat), 0);
        for (int seat = 7; seat > 0; seat--) x.commit(seat);
        Kit.due("all", x.sures(0), 255);
        x.abort(4);
        Kit.due("those below 4", x.sures(0), 15);
        x.open(4, 0);
        Kit.due("one alone", x.sures(4), 16);
        x.commit(4);
        Kit.due("not who was SURE already", x.sures(0), 15);
        x.open(5, 0);
        x.read(5, 0);
        Kit.due("DOOMED: none", x.sures(0), 0);
        Kit.due("ACTIVE still", x.seat(0, 0), 1);
        LateStamps down = inARowDown();
        for (int seat = 0; seat < 7; seat++) down.commit(seat);
        Kit.due("all, the other way round", down.sures(7), 255);
    }

    @Kit.Sentence(promise = 27, says = "SURES. NONE: nobody ACTIVE there, no such SEAT.")
    private static void suresLeaveOutWhoIsDoomedBehind() {
        LateStamps x = Kit.store("k;k");
        x.open(0, 1);
        x.open(1, 1);
        x.open(2, 1);
        x.open(3, 0);
        x.write(0, 0, 1);
        x.read(1, 0);
        x.write(1, 1, 1);
        x.read(2, 0);
        x.commit(1);
        x.commit(2);
        x.read(3, 1);
        Kit.leaves(x, 1 + 4, () -> x.sures(0));
    }

    @Kit.Sentence(promise = 28, says = "NONE: not within 9 (the CLOCK above 9,999, too), not FALLEN, no such SEAT.")
    private static void retriesOfWhoIsNotFallen() {
        Kit.due("no STORE", new LateStamps().retries(0), NONE);
        LateStamps x = oneOfEach();
        Kit.leaves(x, 1, () -> x.retries(3));
        Kit.leaves(x, NONE, () -> x.retries(0), () -> x.retries(1), () -> x.retries(2), () -> x.retries(4),
            () -> x.retries(7), () -> x.retries(8), () -> x.retries(-1));
        for (int far : Kit.FAR) Kit.due("SEAT " + far, x.retries(far), NONE);
    }

    @Kit.Sentence(promise = 28, says = "NONE: not within 9 (the CLOCK above 9,999, too), not FALLEN, no such SEAT.")
    private static void retriesAtTheClocksEnd() {
        LateStamps x = Kit.store("st20;k");
        Kit.tell(x, "o00;a0;o00;a0;o00;a0;o00;a0;o00;a0;o00;a0;o00;a0;o00;a0", 1);
        for (int i = 0; i < 62; i++) x.perform(0);
        x.open(0, 0);
        x.abort(0);
        x.open(0, 0);
        x.abort(0);
        Kit.due("the CLOCK", x.all(11), 9960);
        Kit.leaves(x, 1, () -> x.retries(0));
        x.retry(0);
        x.abort(0);
        Kit.due("the CLOCK", x.all(11), 9980);
        Kit.leaves(x, NONE, () -> x.retries(0));
    }

    @Kit.Sentence(promise = 0, says = "until it is FALLEN no more, behind each, if it is ACTIVE, a COMMIT.")
    private static void oneRetryIsEnoughThoughItWaitsOrIsFull() {
        LateStamps x = Kit.store("sm2;k");
        x.open(0, 1);
        x.open(1, 1);
        x.read(1, 0);
        x.abort(1);
        x.write(0, 0, 1);
        Kit.leaves(x, 1, () -> x.retries(1));
        x.open(2, 1);
        x.abort(0);
        x.write(2, 0, 1);
        Kit.leaves(x, 1, () -> x.retries(0));
    }

    // ---- 29: asOf ----

    @Kit.Sentence(promise = 29, says = "AS OF. NONE: no such KEY, a STAMP below the FLOOR (or below 0).")
    private static void asOfBelowTheFloor() {
        Kit.due("no STORE", new LateStamps().asOf(0, 0), NONE);
        LateStamps x = Kit.store("kv5;kv6");
        Kit.leaves(x, 5, () -> x.asOf(0, 0), () -> x.asOf(0, 1), () -> x.asOf(0, Integer.MAX_VALUE));
        Kit.leaves(x, 6, () -> x.asOf(1, 0));
        Kit.leaves(x, NONE, () -> x.asOf(0, -1), () -> x.asOf(0, Integer.MIN_VALUE), () -> x.asOf(2, 0),
            () -> x.asOf(6, 0), () -> x.asOf(-1, 0));
        for (int far : Kit.FAR) Kit.due("KEY " + far, x.asOf(far, 0), NONE);
        x.open(0, 0);
        x.write(0, 0, 7);
        x.commit(0);
        Kit.due("just below the MARK", x.asOf(0, 9), 5);
        Kit.due("the MARK", x.asOf(0, 10), 7);
        x.open(1, 0);
        x.prune();
        Kit.due("FLOOR", x.all(12), 20);
        Kit.leaves(x, NONE, () -> x.asOf(0, 19), () -> x.asOf(1, 19), () -> x.asOf(0, 10), () -> x.asOf(0, 0));
        Kit.leaves(x, 7, () -> x.asOf(0, 20), () -> x.asOf(0, 21));
    }

    @Kit.Sentence(promise = 0, says = "the VALUE of the VERSION that is sure with the greatest MARK not above it (below the FLOOR: none is told).")
    private static void asOfPassesOverWhatIsNotSure() {
        LateStamps x = Kit.store("kv5");
        for (int seat = 0; seat < 3; seat++) {
            x.open(seat, 1);
            x.write(seat, 0, 10 + seat);
        }
        Kit.leaves(x, 5, () -> x.asOf(0, 10), () -> x.asOf(0, 30), () -> x.asOf(0, 1000000));
        x.commit(1);
        Kit.leaves(x, 5, () -> x.asOf(0, 19));
        Kit.leaves(x, 11, () -> x.asOf(0, 20), () -> x.asOf(0, 29), () -> x.asOf(0, 30), () -> x.asOf(0, 1000000));
    }

    // ---- 31: run; 32: perform ----

    @Kit.Sentence(promise = 31, says = "HIDDEN: no such SCRIPT, no STORE, no such what.")
    private static void runOfNoSuchScript() {
        LateStamps none = new LateStamps();
        Kit.tell(none, "p", 1);
        Kit.due("no STORE", none.run(0, 0), HIDDEN);
        Kit.due("no STORE", none.run(0, 1), HIDDEN);
        LateStamps x = oneOfEach();
        Kit.due("no SCRIPT", x.run(0, 0), HIDDEN);
        Kit.tell(x, "p", 1);
        Kit.leaves(x, NONE, () -> x.run(0, 0));
        Kit.leaves(x, HIDDEN, () -> x.run(1, 0), () -> x.run(4, 0), () -> x.run(-1, 0), () -> x.run(0, 2),
            () -> x.run(0, -1));
        for (int far : Kit.FAR) {
            Kit.due("SCRIPT " + far, x.run(far, 0), HIDDEN);
            Kit.due("what " + far, x.run(0, far), HIDDEN);
        }
    }

    @Kit.Sentence(promise = 31, says = "RUN: behind how many STEPS (0; NONE: all can be), SURE (1).")
    private static void runStopsAtTheFirstThatCantBe() {
        LateStamps x = Kit.store("k");
        Kit.tell(x, "c0;o00", 1);
        Kit.tell(x, "o00;c0;o10;c1;o20;c2;o30;c3;o40;c4;o50;c5;o60;c6;o70;c7", 1);
        Kit.tell(x, "o00;c0;o10;c1;o20;c2;o30;c3;o40;c4;o50;c5;o60;c6;o70;c6", 1);
        Kit.tell(x, "o01;w00:1;o11;r10;c1;r10;c0", 1);
        Kit.leaves(x, 0, () -> x.run(0, 0), () -> x.run(0, 1));
        Kit.leaves(x, NONE, () -> x.run(1, 0));
        Kit.leaves(x, 8, () -> x.run(1, 1));
        Kit.leaves(x, 15, () -> x.run(2, 0));
        Kit.leaves(x, 7, () -> x.run(2, 1));
        Kit.leaves(x, 5, () -> x.run(3, 0));
        Kit.leaves(x, 0, () -> x.run(3, 1));
    }

    @Kit.Sentence(promise = 0, says = "behind how many STEPS the first is that can't be; how many are SURE behind these.")
    private static void whatCantBeByAStep() {
        String[] texts = {"p;o80", "p;o02", "o00;r01", "o00;r06", "o00;r80", "o00;w01:1", "p;r00", "p;w00:1", "p;c0",
            "p;a0", "o00;o00", "p;c8", "p;a9"};
        for (String text : texts) {
            LateStamps x = Kit.store("k");
            Kit.tell(x, text, 1);
            Kit.due("the second of " + text, x.run(0, 0), 1);
            Kit.due("perform", x.perform(0), 1);
            Kit.statusIs(x, 0, 0, 0, 0);
        }
        LateStamps x = Kit.store("sm2;k");
        Kit.tell(x, "o00;o10;w00:1;w10:1", 1);
        Kit.due("a VERSION too many", x.run(0, 0), 3);
    }

    @Kit.Sentence(promise = 32, says = "DO: how many STEPS were done. NONE: no such SCRIPT, no STORE.")
    private static void performOfNoSuchScript() {
        LateStamps none = new LateStamps();
        Kit.tell(none, "p", 1);
        Kit.leaves(none, NONE, () -> none.perform(0));
        LateStamps x = oneOfEach();
        Kit.due("no SCRIPT", x.perform(0), NONE);
        Kit.tell(x, "c3;p", 1);
        Kit.leaves(x, NONE, () -> x.perform(1), () -> x.perform(4), () -> x.perform(-1),
            () -> x.perform(Integer.MAX_VALUE), () -> x.perform(Integer.MIN_VALUE));
        Kit.leaves(x, 0, () -> x.perform(0));
    }

    @Kit.Sentence(promise = 0, says = "DO: its STEPS as ACTS, up to there (no STATUS).")
    private static void performDoesActsUpToThere() {
        LateStamps x = Kit.store("kv5;k");
        Kit.tell(x, "o01;r00;w01:9;c0;o00;a0;p;o10;o21;w20:2;r10;c1;a2;o70;c7;c7", 1);
        LateStamps y = Kit.store("kv5;k");
        Kit.tell(y, "p", 1);
        y.open(0, 1);
        y.read(0, 0);
        y.write(0, 1, 9);
        y.commit(0);
        y.open(0, 0);
        y.abort(0);
        y.prune();
        y.open(1, 0);
        y.open(2, 1);
        y.write(2, 0, 2);
        y.read(1, 0);
        y.commit(1);
        y.abort(2);
        y.open(7, 0);
        y.commit(7);
        Kit.due("fifteen", x.perform(0), 15);
        Kit.due("as by hand", Kit.look(x).equals(Kit.look(y)), true);
        Kit.statusIs(x, 0, 0, 0, 0);
        Kit.due("ACTS", x.count(5), 15);
        Kit.due("one UNDONE", x.undo(), 14);
        Kit.due("ACTIVE", x.seat(7, 0), 1);
    }

    @Kit.Sentence(promise = 0, says = "DO: its STEPS as ACTS, up to there (no STATUS).")
    private static void noStepMoreThanItsOwnIsDone() {
        LateStamps x = Kit.store("k");
        Kit.feed(x, "p;o00;o10;o20;x");
        Kit.due("a longer one is judged", x.fault(1), 14);
        Kit.tell(x, "p", 1);
        Kit.tell(x, "o50;p", 1);
        Kit.leaves(x, NONE, () -> x.run(0, 0), () -> x.run(1, 0));
        Kit.leaves(x, 0, () -> x.run(0, 1));
        Kit.due("one", x.perform(0), 1);
        Kit.due("two", x.perform(1), 2);
        Kit.due("three ACTS", x.count(5), 3);
        Kit.due("one is there", x.all(0), 32);
        Kit.due("mix", x.mix(0, 0, 1), 2);
    }

    // ---- 33: mix ----

    @Kit.Sentence(promise = 33, says = "HIDDEN: no STORE, no such SCRIPTS, more than six STEPS, no such what.")
    private static void mixOfNoSuchScripts() {
        LateStamps none = new LateStamps();
        Kit.tell(none, "p", 1);
        for (int what = 0; what < 3; what++) Kit.due("no STORE", none.mix(0, 0, what), HIDDEN);
        LateStamps x = oneOfEach();
        Kit.due("no SCRIPT", x.mix(0, 0, 0), HIDDEN);
        Kit.tell(x, steps(6), 1);
        Kit.tell(x, steps(7), 1);
        Kit.leaves(x, 924, () -> x.mix(0, 0, 0));
        Kit.leaves(x, HIDDEN, () -> x.mix(1, 0, 0), () -> x.mix(0, 1, 0), () -> x.mix(1, 1, 1), () -> x.mix(0, 2, 0),
            () -> x.mix(2, 0, 0), () -> x.mix(4, 0, 0), () -> x.mix(0, 4, 0), () -> x.mix(-1, 0, 0),
            () -> x.mix(0, -1, 0), () -> x.mix(0, 0, 3), () -> x.mix(0, 0, -1));
        for (int far : Kit.FAR) {
            Kit.due("one " + far, x.mix(far, 0, 0), HIDDEN);
            Kit.due("other " + far, x.mix(0, far, 0), HIDDEN);
            Kit.due("what " + far, x.mix(0, 0, far), HIDDEN);
        }
    }

    @Kit.Sentence(promise = 0, says = "all rows that have the STEPS of both, each in its order: how many there are")
    private static void mixCountsItsRows() {
        int[][] rows = {{1, 1, 2}, {1, 6, 7}, {6, 1, 7}, {2, 2, 6}, {3, 5, 56}, {5, 6, 462}, {6, 6, 924}};
        for (int[] row : rows) {
            LateStamps x = Kit.store("k");
            Kit.tell(x, steps(row[0]), 1);
            Kit.tell(x, steps(row[1]), 1);
            Kit.due("rows of " + row[0] + " and " + row[1], x.mix(0, 1, 0), row[2]);
            Kit.due("all can be", x.mix(0, 1, 1), row[2]);
            Kit.due("the first has the second SCRIPT ahead", x.mix(0, 1, 2), (1 << row[1]) - 1);
        }
        LateStamps x = Kit.store("k");
        Kit.tell(x, "p;p;p", 1);
        Kit.due("with itself", x.mix(0, 0, 0), 20);
    }

    @Kit.Sentence(promise = 0, says = "the first of these rows (bit i: its i-th STEP is one of the second SCRIPT; of several the least number).")
    private static void mixTellsTheFirstRow() {
        LateStamps x = Kit.store("k");
        Kit.tell(x, "o00;p;p;p;p;p", 1);
        Kit.tell(x, "c0;p;p;p;p;p", 1);
        Kit.due("o ahead of c alone", x.mix(0, 1, 1), 462);
        Kit.due("o, then the second SCRIPT", x.mix(0, 1, 2), 0x7E);
        Kit.due("the other way round as many", x.mix(1, 0, 1), 462);
        Kit.due("o alone is ahead", x.mix(1, 0, 2), 0x1 | 0x1F << 1);
        Kit.tell(x, "p;p;p;p;p;o00", 1);
        Kit.due("the second SCRIPT wholly behind", x.mix(2, 1, 1), 1);
        Kit.due("the highest row", x.mix(2, 1, 2), 0xFC0);
        Kit.due("wholly ahead", x.mix(1, 2, 2), 0x3F);
    }

    @Kit.Sentence(promise = 33, says = "in how many none FALLS (1), the first of these (2; NONE: there is none).")
    private static void mixOfWhatCantBe() {
        LateStamps x = Kit.store("k");
        Kit.tell(x, "c0", 1);
        Kit.tell(x, "o00;a0", 1);
        Kit.tell(x, "o01", 1);
        Kit.leaves(x, 3, () -> x.mix(0, 1, 0));
        Kit.leaves(x, 0, () -> x.mix(0, 1, 1), () -> x.mix(0, 0, 1), () -> x.mix(2, 2, 1));
        Kit.leaves(x, NONE, () -> x.mix(0, 1, 2), () -> x.mix(0, 0, 2), () -> x.mix(2, 2, 2));
        Kit.leaves(x, 1, () -> x.mix(0, 2, 1), () -> x.mix(0, 2, 2), () -> x.mix(2, 0, 1));
        Kit.leaves(x, 2, () -> x.mix(2, 0, 2));
    }

    @Kit.Sentence(promise = 0, says = "in how many all STEPS can be and none FALLS")
    private static void mixLeavesOutRowsInWhichOneFalls() {
        LateStamps x = Kit.store("k");
        Kit.tell(x, "o01;r00", 1);
        Kit.tell(x, "o10;w10:1", 1);
        // LATE alone in o1 o0 r0 w1, where the older one writes behind the newer one's READ.
        Kit.leaves(x, 5, () -> x.mix(0, 1, 1));
        x.open(7, 0);
        x.abort(7);
        Kit.leaves(x, 5, () -> x.mix(0, 1, 1));
        Kit.tell(x, "o00;c0", 1);
        Kit.tell(x, "p;a7", 1);
        x.open(7, 0);
        Kit.leaves(x, 0, () -> x.mix(2, 3, 1));
    }

    // ---- 34: odds ----

    @Kit.Sentence(promise = 34, says = "ODDS. NONE: no STORE, no such SEAT, out of bounds.")
    private static void oddsOutOfBounds() {
        LateStamps none = new LateStamps();
        Kit.due("no STORE", none.odds(0, 50), NONE);
        LateStamps x = oneOfEach();
        Kit.leaves(x, NONE, () -> x.odds(8, 50), () -> x.odds(-1, 50), () -> x.odds(0, 101), () -> x.odds(0, -1),
            () -> x.odds(4, 101), () -> x.odds(2, -1));
        for (int far : Kit.FAR) {
            Kit.due("SEAT " + far, x.odds(far, 50), NONE);
            Kit.due("chance " + far, x.odds(0, far), NONE);
        }
    }

    @Kit.Sentence(promise = 0, says = "(it was so already: all; nobody there: 0; of each part chance 100ths, cut, ABORT).")
    private static void oddsOfWhoIsSureFallenOrNobody() {
        LateStamps x = oneOfEach();
        Kit.leaves(x, ALL, () -> x.odds(2, 0), () -> x.odds(2, 100), () -> x.odds(2, 33), () -> x.odds(0, 0),
            () -> x.odds(1, 0));
        Kit.leaves(x, 0, () -> x.odds(4, 0), () -> x.odds(7, 50), () -> x.odds(3, 0), () -> x.odds(3, 100),
            () -> x.odds(0, 100), () -> x.odds(1, 100));
        Kit.leaves(x, 990000000, () -> x.odds(0, 1));
        Kit.leaves(x, 980100000, () -> x.odds(1, 1));
        Kit.leaves(x, 10000000, () -> x.odds(0, 99));
        Kit.leaves(x, 100000, () -> x.odds(1, 99));
    }

    /** Seats 0 to n ACTIVE: of the parts behind n others those by which the n-th does not ABORT. */
    private static long partsLeft(int others, int chance, long parts) {
        long cut = parts * chance / 100;
        if (others == 0) return parts - cut;
        return partsLeft(others - 1, chance, cut) + partsLeft(others - 1, chance, parts - cut);
    }

    @Kit.Sentence(promise = 0, says = "of each part chance 100ths, cut, ABORT")
    private static void eachPartIsCutByItself() {
        for (int chance : new int[] {1, 33, 67, 99}) {
            LateStamps x = Kit.store("k");
            eight(x, 0);
            for (int seat = 0; seat < 8; seat++) {
                Kit.due("odds(" + seat + ", " + chance + ")", x.odds(seat, chance), partsLeft(seat, chance, ALL));
            }
        }
        Kit.due("the cut can be seen", partsLeft(7, 33, ALL) != 670000000L, true);
    }

    @Kit.Sentence(promise = 0, says = "each by chance ABORTS, by itself (though it may have FALLEN by another one)")
    private static void whoHasFallenByAnotherIsDrawnStill() {
        LateStamps x = Kit.store("k");
        eight(x, 1);
        x.write(0, 0, 1);
        for (int seat = 1; seat < 7; seat++) x.read(seat, 0);
        x.commit(3);
        Kit.due("as if all were by themselves", x.odds(7, 33), partsLeft(7, 33, ALL));
        Kit.due("it is not so by itself", partsLeft(7, 33, ALL) != partsLeft(1, 33, ALL), true);
        Kit.due("two must stay", x.odds(1, 33), 448900000);
    }

    @Kit.Sentence(promise = 0, says = "SEATS rising, of those ACTIVE or WAITING each by chance ABORTS")
    private static void whoIsSureFallenOrNobodyIsNotDrawn() {
        LateStamps x = Kit.store("k");
        for (int seat = 0; seat < 7; seat++) x.open(seat, 0);
        x.commit(0);
        x.abort(2);
        x.commit(3);
        Kit.due("of 1, 4, 5, 6 the last", x.odds(6, 33), partsLeft(3, 33, ALL));
        x.open(7, 0);
        Kit.due("of five the last", x.odds(7, 33), partsLeft(4, 33, ALL));
        Kit.due("eight would be otherwise", partsLeft(4, 33, ALL) != partsLeft(7, 33, ALL), true);
    }

    @Kit.Sentence(promise = 0, says = "then all that are ACTIVE are to COMMIT, rising")
    private static void oddsOfARow() {
        LateStamps x = inARow();
        Kit.leaves(x, ALL, () -> x.odds(7, 0));
        Kit.due("one half", x.odds(0, 50), ALL / 2);
        Kit.due("one quarter", x.odds(1, 50), ALL / 4);
        Kit.due("one of 256", x.odds(7, 50), ALL / 256);
        x.commit(0);
        x.open(0, 0);
        x.read(0, 1);
        Kit.due("DOOMED by WAY 0", x.seat(1, 4), 1);
        Kit.leaves(x, 0, () -> x.odds(1, 0), () -> x.odds(7, 0));
        Kit.leaves(x, ALL, () -> x.odds(0, 0));
    }

    // ---- 35: shares ----

    @Kit.Sentence(promise = 35, says = "SHARES. NONE: no such KEY, out of bounds.")
    private static void sharesOutOfBounds() {
        Kit.due("no STORE", new LateStamps().shares(0, 1), NONE);
        LateStamps x = oneOfEach();
        Kit.leaves(x, NONE, () -> x.shares(2, 1), () -> x.shares(6, 1), () -> x.shares(-1, 1), () -> x.shares(0, 1000),
            () -> x.shares(0, -1));
        for (int far : Kit.FAR) {
            Kit.due("KEY " + far, x.shares(far, 1), NONE);
            Kit.due("c " + far, x.shares(0, far), NONE);
        }
    }

    @Kit.Sentence(promise = 0, says = "SHARES of c (0 .. 999) by VERSIONS: for a KEY c times how many it has by those of all, cut.")
    private static void sharesAreCut() {
        LateStamps x = oneOfEach();
        Kit.leaves(x, 0, () -> x.shares(0, 0), () -> x.shares(0, 1), () -> x.shares(1, 2));
        Kit.leaves(x, 666, () -> x.shares(0, 999));
        Kit.leaves(x, 333, () -> x.shares(1, 999));
        Kit.leaves(x, 665, () -> x.shares(0, 998));
        Kit.leaves(x, 332, () -> x.shares(1, 998));
        Kit.due("all of one", Kit.store("k").shares(0, 999), 999);
        Kit.due("a sixth", Kit.store("k;k;k;k;k;k").shares(5, 999), 166);
    }

    // ---- 36: all ----

    @Kit.Sentence(promise = 36, says = "HIDDEN: no STORE, no such what.")
    private static void allOfNoSuchWhat() {
        for (int what = -1; what < 15; what++) Kit.due("no STORE", new LateStamps().all(what), HIDDEN);
        LateStamps x = oneOfEach();
        Kit.leaves(x, HIDDEN, () -> x.all(14), () -> x.all(-1));
        for (int far : Kit.FAR) Kit.due("all(" + far + ")", x.all(far), HIDDEN);
        int[] want = {1, 2, 4, 8, 0, 1, 0, 0, 0, 2, 0, 40, 0, 3};
        for (int what = 0; what < 14; what++) Kit.due("all(" + what + ")", x.all(what), want[what]);
    }

    @Kit.Sentence(promise = 36, says = "OLDEST (6; NONE: none), FULLEST (7), WORST (8; NONE: none), CHAIN (9), SPARE (10), the CLOCK (11), the FLOOR (12), VERSIONS of all KEYS (13).")
    private static void withNobodyThereIsNone() {
        LateStamps x = Kit.store("k;k");
        int[] want = {0, 0, 0, 0, 0, 0, NONE, 0, NONE, 0, 0, 0, 0, 2};
        for (int what = 0; what < 14; what++) Kit.due("all(" + what + ")", x.all(what), want[what]);
        x.open(0, 0);
        x.commit(0);
        x.open(1, 0);
        x.abort(1);
        Kit.due("SURE and FALLEN are not OLDEST", x.all(6), NONE);
        Kit.due("nor WORST", x.all(8), NONE);
        Kit.due("nor in a CHAIN", x.all(9), 0);
        x.open(7, 0);
        Kit.due("OLDEST", x.all(6), 7);
        Kit.due("WORST", x.all(8), 7);
        Kit.due("CHAIN", x.all(9), 1);
    }

    @Kit.Sentence(promise = 0, says = "the SEAT, ACTIVE or WAITING, by which most would FALL (of several the lowest, all).")
    private static void ofSeveralTheLowest() {
        LateStamps x = Kit.store("k;k;k;k;k;k");
        Kit.due("FULLEST of all alike", x.all(7), 0);
        for (int seat = 7; seat >= 0; seat--) x.open(seat, 1);
        Kit.due("WORST of all alike", x.all(8), 0);
        Kit.due("OLDEST", x.all(6), 7);
        x.write(3, 1, 1);
        Kit.due("FULLEST is the second", x.all(7), 1);
        x.undo();
        x.write(5, 4, 1);
        x.write(6, 2, 1);
        Kit.due("FULLEST of two alike", x.all(7), 2);
        x.read(3, 4);
        x.read(2, 2);
        Kit.due("WORST of two alike", x.all(8), 5);
        x.commit(2);
        x.read(1, 2);
        Kit.due("WORST", x.all(8), 6);
        x.write(7, 5, 1);
        x.write(4, 5, 1);
        Kit.due("FULLEST", x.all(7), 5);
        x.abort(7);
        Kit.due("OLDEST", x.all(6), 6);
        x.openAt(7, 1, 1);
        Kit.due("OLDEST by hand", x.all(6), 7);
    }

    @Kit.Sentence(promise = 0, says = "of those ACTIVE or WAITING the most in a row of which each DEPENDS on the next (one alone: 1; none: 0).")
    private static void chainsOfNoneToEight() {
        LateStamps x = inARow();
        Kit.due("eight", x.all(9), 8);
        x.commit(7);
        x.commit(5);
        Kit.due("WAITING, too", x.all(9), 8);
        for (int seat = 0; seat < 5; seat++) {
            x.commit(seat);
            Kit.due("one less", x.all(9), seat < 4 ? 7 - seat : 2);
        }
        x.commit(6);
        Kit.due("none", x.all(9), 0);
        x = inARowDown();
        Kit.due("eight, the other way round", x.all(9), 8);
        x.abort(1);
        Kit.due("six", x.all(9), 6);
        x = Kit.store("k;k");
        eight(x, 1);
        Kit.due("each alone", x.all(9), 1);
        x.write(0, 0, 1);
        for (int seat = 1; seat < 8; seat++) x.read(seat, 0);
        Kit.due("two", x.all(9), 2);
    }

    @Kit.Sentence(promise = 0, says = "SORTS: SEATS (bits) that are ACTIVE, WAITING, SURE, FALLEN, DOOMED (ACTIVE or WAITING). UNSURE: KEYS (bits) with a VERSION that is not sure.")
    private static void sortsHaveAllSeatsAndKeys() {
        LateStamps x = Kit.store("k;k;k;k;k;k");
        eight(x, 1);
        for (int key = 0; key < 6; key++) x.write(key, key, 1);
        Kit.due("ACTIVE", x.all(0), 255);
        Kit.due("UNSURE", x.all(5), 63);
        for (int key = 0; key < 6; key++) x.read(7, key);
        x.commit(7);
        Kit.due("WAITING", x.all(1), 128);
        for (int seat = 0; seat < 7; seat++) x.commit(seat);
        Kit.due("SURE", x.all(2), 255);
        Kit.due("UNSURE", x.all(5), 0);
        eight(x, 1);
        x.write(6, 5, 1);
        x.commit(0);
        x.commit(7);
        x.open(7, 0);
        x.read(7, 5);
        Kit.due("DOOMED", x.all(4), 64);
        Kit.due("UNSURE", x.all(5), 32);
        for (int seat = 1; seat < 8; seat++) x.abort(seat);
        Kit.due("FALLEN", x.all(3), 254);
        Kit.due("DOOMED and FALLEN is told at the SEAT alone", x.all(4), 0);
        Kit.due("at the SEAT", x.seat(6, 4), 1);
    }

    @Kit.Sentence(promise = 0, says = "SPARE: how many VERSIONS a PRUNING would take.")
    private static void spareTakesNothing() {
        LateStamps x = Kit.store("k;k");
        for (int i = 0; i < 3; i++) {
            x.open(0, 1);
            x.write(0, 0, i);
            x.write(0, 1, i);
            x.commit(0);
        }
        Kit.leaves(x, 6, () -> x.all(10));
        Kit.due("VERSIONS", x.all(13), 8);
        x.open(1, 1);
        x.openAt(2, 1, 19);
        Kit.leaves(x, 2, () -> x.all(10));
        Kit.due("FLOOR", x.all(12), 0);
        Kit.due("so many", x.prune(), 2);
        Kit.leaves(x, 0, () -> x.all(10));
    }

    // ---- 37, 38: images ----

    @Kit.Sentence(promise = 37, says = "An IMAGE (instead of the one ahead): the CLOCK. NONE: no STORE.")
    private static void imageInsteadOfTheOneAhead() {
        LateStamps none = new LateStamps();
        Kit.leaves(none, NONE, () -> none.image());
        Kit.due("and none is there", none.back(), NONE);
        LateStamps x = Kit.store("k");
        Kit.leaves(x, 0, () -> x.image());
        x.open(0, 0);
        Kit.leaves(x, 10, () -> x.image());
        x.open(1, 0);
        Kit.due("the second", x.back(), 10);
        Kit.due("one is there", x.all(0), 1);
        Kit.due("again the second", x.back(), 10);
    }

    @Kit.Sentence(promise = 38, says = "BACK: the CLOCK. NONE: no IMAGE of this STORE.")
    private static void backWithoutImage() {
        LateStamps none = new LateStamps();
        Kit.leaves(none, NONE, () -> none.back());
        LateStamps x = oneOfEach();
        Kit.leaves(x, NONE, () -> x.back());
        Kit.due("UNDO can be still", x.undo(), 8);
        x.image();
        Kit.tell(x, "kv5;kv6", 0);
        Kit.leaves(x, NONE, () -> x.back());
        x.open(0, 0);
        Kit.due("one of this STORE", x.image(), 10);
        Kit.due("back", x.back(), 10);
    }

    @Kit.Sentence(promise = 0, says = "An IMAGE keeps SEATS, VERSIONS, the CLOCK, the FLOOR, the STAMPS by hand, the LOG; BACK: they are so again (no ACT can be UNDONE then).")
    private static void backBringsAllAgain() {
        LateStamps x = Kit.store("kv5;kv6");
        x.open(0, 1);
        x.open(1, 1);
        x.openAt(2, 0, 15);
        x.write(0, 0, 1);
        x.read(1, 0);
        x.commit(1);
        x.image();
        x.back();
        String was = Kit.look(x);
        x.openAt(3, 0, 14);
        x.openAt(4, 0, 13);
        x.abort(0);
        x.open(0, 0);
        x.write(2, 1, 3);
        x.commit(2);
        x.prune();
        for (int i = 0; i < 60; i++) x.prune();
        x.open(9, 9);
        Kit.due("acts", x.count(5), 40);
        Kit.due("the CLOCK", x.back(), 20);
        Kit.due("all again", Kit.look(x).equals(was), true);
        Kit.due("no ACT", x.count(5), 0);
        Kit.leaves(x, NONE, () -> x.undo());
        Kit.due("STATUS is not kept by it", x.status(0), 1);
        Kit.due("the STAMP is free again", x.openAt(3, 0, 14), 14);
        Kit.due("an ACT behind it can be UNDONE", x.undo(), 0);
        x.abort(0);
        Kit.due("the IMAGE is there still", x.back(), 20);
        Kit.due("all again", Kit.look(x).equals(was), true);
    }

    @Kit.Sentence(promise = 38, says = "BACK: the CLOCK. NONE: no IMAGE of this STORE.")
    private static void anImageOutlivesUndo() {
        LateStamps x = Kit.store("k");
        x.open(0, 0);
        x.open(1, 0);
        x.image();
        x.undo();
        x.undo();
        Kit.due("the CLOCK", x.all(11), 0);
        Kit.due("back", x.back(), 20);
        Kit.due("two are there", x.all(0), 3);
    }

    // ---- 39: count ----

    @Kit.Sentence(promise = 39, says = "HIDDEN for others.")
    private static void countHasSix() {
        LateStamps x = new LateStamps();
        for (int what = 0; what < 6; what++) Kit.due("count(" + what + ")", x.count(what), 0);
        Kit.leaves(x, HIDDEN, () -> x.count(6), () -> x.count(-1));
        for (int far : Kit.FAR) Kit.due("count(" + far + ")", x.count(far), HIDDEN);
        Kit.tell(x, "k;k;k", 0);
        Kit.tell(x, "p", 1);
        Kit.tell(x, "p;p", 1);
        Kit.feed(x, "k;k;");
        x.open(0, 0);
        x.openAt(1, 0, 3);
        x.commit(0);
        int[] want = {3, 2, 4, 1, 4, 3};
        for (int what = 0; what < 6; what++) Kit.due("count(" + what + ")", x.count(what), want[what]);
    }
}
