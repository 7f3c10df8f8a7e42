/** Texts: each sentence of the document that names a boundary case of TAPE, STORE and SCRIPTS, a test each. */
public final class TextBoundsTest {
    private static final int NONE = Kit.NONE;
    private static final int HIDDEN = Kit.HIDDEN;

    public static void main(String[] args) throws Exception {
        Kit.runAll(TextBoundsTest.class);
    }

    private static void storeFault(String text, int want) {
        Kit.fault(0, text, want);
    }

    private static void scriptFault(String text, int want) {
        Kit.fault(1, text, want);
    }

    private static void ruleIs(String text, int what, int want) {
        Kit.due("rule(" + what + ") of '" + text + "'", Kit.store(text).rule(what), want);
    }

    private static void valueIs(String text, int want) {
        Kit.due("VALUE of '" + text + "'", Kit.store(text).version(0, 0, 1), want);
    }

    private static String steps(int many) {
        return "p" + ";p".repeat(many - 1);
    }

    // ---- 1 to 3: a new object, the TAPE ----

    @Kit.Sentence(promise = 1, says = "No STORE.")
    private static void aNewObjectHasNothing() {
        LateStamps x = new LateStamps();
        for (int what = 0; what < 6; what++) Kit.due("count(" + what + ")", x.count(what), 0);
        for (int what = 0; what < 4; what++) Kit.due("status(" + what + ")", x.status(what), 0);
        for (int what = 0; what < 14; what++) Kit.due("all(" + what + ")", x.all(what), HIDDEN);
        for (int what = 0; what < 3; what++) Kit.due("rule(" + what + ")", x.rule(what), NONE);
        for (int what = 0; what < 5; what++) Kit.thrown(x, 0, what);
        Kit.due("versions(0)", x.versions(0), NONE);
        Kit.due("a new object by itself", new LateStamps().feed(1, 0, 0, 0, 0) + x.count(2), 1);
    }

    @Kit.Sentence(promise = 2, says = "Twenty bytes more come to the TAPE")
    private static void allTwentyBytesComeInOrder() {
        LateStamps x = new LateStamps();
        int length = x.feed(Kit.word("k;kv"), Kit.word("1;kv"), Kit.word("2;kv"), Kit.word("3;kv"), Kit.word("4;k "));
        Kit.due("feed", length, 20);
        Kit.due("text(0)", x.text(0), 6);
        for (int key = 0; key < 5; key++) Kit.due("VALUE " + key, x.version(key, 0, 1), key);
    }

    @Kit.Sentence(promise = 2, says = "of each number the highest first")
    private static void theHighestByteIsFirst() {
        LateStamps x = new LateStamps();
        Kit.due("kv12", x.feed(0x6B763132, 0, 0, 0, 0), 4);
        Kit.due("fault(0)", x.fault(0), NONE);
        x.text(0);
        Kit.due("VALUE", x.version(0, 0, 1), 12);
    }

    @Kit.Sentence(promise = 2, says = "bytes of 0 are left out")
    private static void bytesOfZeroAreLeftOut() {
        LateStamps x = new LateStamps();
        Kit.due("nothing", x.feed(0, 0, 0, 0, 0), 0);
        Kit.due("k", x.feed(0x6B, 0, 0, 0, 0), 1);
        Kit.due("v", x.feed(0, 0x7600, 0, 0, 0), 2);
        Kit.due("1", x.feed(0, 0, 0, 0x310000, 0), 3);
        Kit.due("2", x.feed(0, 0, 0, 0, 0x32000000), 4);
        Kit.due("fault(0)", x.fault(0), NONE);
        x.text(0);
        Kit.due("VALUE", x.version(0, 0, 1), 12);
    }

    @Kit.Sentence(promise = 2, says = "Twenty bytes more come to the TAPE")
    private static void bytesAbove127AreBytes() {
        LateStamps x = new LateStamps();
        Kit.due("four", x.feed(0x80FF81FE, 0, 0, 0, 0), 4);
        Kit.due("twenty more", x.feed(-1, -1, -1, -1, -1), 24);
        Kit.due("MIN_VALUE has one byte", x.feed(Integer.MIN_VALUE, 0, 0, 0, 0), 25);
        Kit.due("none is a sign", x.fault(0), 0);
    }

    @Kit.Sentence(promise = 2, says = "NONE: more than 240.")
    private static void theTapeHas240BytesAtMost() {
        LateStamps x = new LateStamps();
        for (int i = 1; i <= 12; i++) Kit.due("feed", x.feed(-1, -1, -1, -1, -1), 20 * i);
        Kit.due("one more", x.feed(1, 0, 0, 0, 0), NONE);
        Kit.due("one more, at the end", x.feed(0, 0, 0, 0, 1), NONE);
        Kit.due("zeros are not more", x.feed(0, 0, 0, 0, 0), 240);
        Kit.due("it stays", x.count(2), 240);
        Kit.due("end", x.end(239), true);
        Kit.due("two more", x.feed(0x00010100, 0, 0, 0, 0), NONE);
        Kit.due("239", x.count(2), 239);
        Kit.due("the 240th", x.feed(0, 0, 0, 0, 1), 240);
    }

    @Kit.Sentence(promise = 2, says = "NONE: more than 240.")
    private static void theBytesOfAllFiveNumbersCount() {
        LateStamps x = new LateStamps();
        for (int i = 0; i < 12; i++) x.feed(-1, -1, -1, -1, -1);
        x.end(236);
        for (int i = 0; i < 5; i++) {
            Kit.due("five", x.feed(1, 1, 1, 1, 1), NONE);
            int[] words = new int[5];
            for (int j = 0; j < 5; j++) words[j] = j == i ? -1 : j == (i + 1) % 5 ? 1 : 0;
            Kit.due("four and one", x.feed(words[0], words[1], words[2], words[3], words[4]), NONE);
            words[(i + 1) % 5] = 0;
            Kit.due("four", x.feed(words[0], words[1], words[2], words[3], words[4]), 240);
            x.end(236);
        }
        Kit.due("four by one each", x.feed(1, 1, 0, 1, 1), 240);
    }

    @Kit.Sentence(promise = 2, says = "NONE: more than 240.")
    private static void ofTooManyBytesNoneComes() {
        LateStamps x = new LateStamps();
        String blanks = " ".repeat(229);
        Kit.due("229", Kit.feed(x, blanks), 229);
        Kit.due("20 more", x.feed(-1, -1, -1, -1, -1), NONE);
        Kit.due("none came", x.count(2), 229);
        Kit.due("a key", x.feed(0x6B, 0, 0, 0, 0), 230);
        Kit.due("the key stands behind the blanks", x.fault(0), NONE);
        Kit.due("it is the STORE", x.text(0), 1);
    }

    @Kit.Sentence(promise = 2, says = "NONE: more than 240.")
    private static void a240ByteTextIsReadToItsEnd() {
        LateStamps x = new LateStamps();
        Kit.feed(x, " ".repeat(239) + "k");
        Kit.due("240", x.count(2), 240);
        Kit.due("fault(0)", x.fault(0), NONE);
        x.end(239);
        Kit.feed(x, "s");
        Kit.due("without a KEY: the length", x.fault(0), 240);
        x.end(239);
        Kit.feed(x, "x");
        Kit.due("the last byte", x.fault(0), 239);
        Kit.due("the last byte", x.fault(1), 239);
    }

    @Kit.Sentence(promise = 3, says = "The TAPE has its first n bytes alone. False: n.")
    private static void endTakesNoOtherLength() {
        LateStamps x = new LateStamps();
        Kit.due("end(0) of nothing", x.end(0), true);
        Kit.due("end(1) of nothing", x.end(1), false);
        Kit.feed(x, "kv12");
        Kit.due("end(5)", x.end(5), false);
        Kit.due("end(-1)", x.end(-1), false);
        for (int far : Kit.FAR) Kit.due("end(" + far + ")", x.end(far), false);
        Kit.due("nothing is gone", x.count(2), 4);
        Kit.due("end(4)", x.end(4), true);
        Kit.due("nothing is gone", x.count(2), 4);
        Kit.due("end(3)", x.end(3), true);
        Kit.due("the first three", x.count(2), 3);
        Kit.due("what is gone is gone", x.end(4), false);
        Kit.feed(x, "5");
        x.text(0);
        Kit.due("what is fed then stands behind them", x.version(0, 0, 1), 15);
    }

    @Kit.Sentence(promise = 3, says = "The TAPE has its first n bytes alone. False: n.")
    private static void endOfNothingEmptiesTheTape() {
        LateStamps x = new LateStamps();
        Kit.feed(x, "kv12");
        Kit.due("end(0)", x.end(0), true);
        Kit.due("empty", x.count(2), 0);
        Kit.due("fault(0)", x.fault(0), 0);
        Kit.due("text(0)", x.text(0), NONE);
    }

    // ---- 4: FAULT of a STORE ----

    @Kit.Sentence(promise = 0, says = "s (its RULES; one at most)")
    private static void aStoreHasOneSAtMost() {
        storeFault("k", NONE);
        storeFault("s;k", NONE);
        storeFault("s;s;k", 2);
        storeFault("sm2;k;st3", 6);
        storeFault("k;s;k; s", 7);
        storeFault("s;k;k;k;k;k;k;s", 14);
        storeFault("s;k;k;k;k;k;k; s", 15);
        LateStamps x = Kit.store("sm3;k");
        Kit.tell(x, "k;sm4", 0);
        Kit.due("each STORE has its own", x.rule(0), 4);
        Kit.feed(x, "sm5;k");
        Kit.due("judged once", x.fault(0), NONE);
        Kit.due("judged twice", x.fault(0), NONE);
        Kit.due("and taken", x.text(0) * 10 + x.rule(0), 15);
    }

    @Kit.Sentence(promise = 0, says = "k (a KEY; 1 .. 6)")
    private static void aStoreHasOneToSixKeys() {
        storeFault("s", 1);
        storeFault("sm3t4", 5);
        for (int keys = 1; keys <= 6; keys++) {
            String text = "k" + ";k".repeat(keys - 1);
            storeFault(text, NONE);
            Kit.due("KEYS of " + text, Kit.store(text).count(0), keys);
        }
        storeFault("k;k;k;k;k;k;k", 12);
        storeFault("k;k;k;k;k;k; k;k", 13);
        storeFault("s;k;k;k;k;k;k;k", 14);
        storeFault("s;k;k;k;k;k;k;  k", 16);
        storeFault("k;k;s;k;k;k;k;k", 14);
    }

    @Kit.Sentence(promise = 0, says = "in any order, then ITEMS, none or more")
    private static void sStandsAnywhere() {
        ruleIs("sm3;k;k", 0, 3);
        ruleIs("k;sm3;k", 0, 3);
        ruleIs("k;k;sm3", 0, 3);
        ruleIs("k;k;k;k;k;k;sm3", 0, 3);
        storeFault("sm2p1t3;k", NONE);
        storeFault("st3m2p1;k", NONE);
        storeFault("sp1t3m2;k", NONE);
        storeFault("s;kv3;k", NONE);
    }

    @Kit.Sentence(promise = 0, says = "a letter, each once at most in a CLAUSE")
    private static void aLetterStandsOnceInAClause() {
        storeFault("sm2m2;k", 3);
        storeFault("sp0p0;k", 3);
        storeFault("st2t2;k", 3);
        storeFault("sm2p0m2;k", 5);
        storeFault("sm2p0t2m2;k", 7);
        storeFault("sm2p0t2p", 7);
        storeFault("kv1v1", 3);
        storeFault("kv1 v", 4);
        storeFault("kv1;kv1", NONE);
        storeFault("sv1;k", 1);
        storeFault("km2", 1);
        storeFault("kp0", 1);
        storeFault("kt2", 1);
        storeFault("sx;k", 1);
        storeFault("sM2;k", 1);
    }

    @Kit.Sentence(promise = 0, says = "and a number (one or two digits): of s")
    private static void aLetterWantsItsNumber() {
        storeFault("sm;k", 2);
        storeFault("sp;k", 2);
        storeFault("st;k", 2);
        storeFault("kv;k", 2);
        storeFault("smp1;k", 2);
        storeFault("kvx", 2);
        storeFault("kv-1", 2);
        storeFault("kv/", 2);
        storeFault("kv:", 2);
        valueIs("kv7", 7);
        valueIs("kv07", 7);
        valueIs("kv70", 70);
    }

    @Kit.Sentence(promise = 0, says = "m MOST (2 .. 9; 6 without)")
    private static void mostIsTwoToNine() {
        storeFault("sm0;k", 2);
        storeFault("sm1;k", 2);
        storeFault("sm00;k", 3);
        storeFault("sm01;k", 3);
        storeFault("sm10;k", 3);
        storeFault("sm99;k", 3);
        ruleIs("sm2;k", 0, 2);
        ruleIs("sm02;k", 0, 2);
        ruleIs("sm9;k", 0, 9);
        ruleIs("sm09;k", 0, 9);
        ruleIs("k", 0, 6);
        ruleIs("sp1t2;k", 0, 6);
    }

    @Kit.Sentence(promise = 0, says = "p how it is PRUNED (0 by hand alone, 1 behind each that is SURE, too; 0)")
    private static void pIsZeroOrOne() {
        storeFault("sp2;k", 2);
        storeFault("sp9;k", 2);
        storeFault("sp02;k", 3);
        storeFault("sp10;k", 3);
        ruleIs("sp0;k", 1, 0);
        ruleIs("sp1;k", 1, 1);
        ruleIs("sp01;k", 1, 1);
        ruleIs("k", 1, 0);
        ruleIs("sm2t2;k", 1, 0);
    }

    @Kit.Sentence(promise = 0, says = "t the STRIDE (2 .. 20; 10)")
    private static void theStrideIsTwoToTwenty() {
        storeFault("st0;k", 2);
        storeFault("st1;k", 2);
        storeFault("st01;k", 3);
        storeFault("st21;k", 3);
        storeFault("st99;k", 3);
        ruleIs("st2;k", 2, 2);
        ruleIs("st20;k", 2, 20);
        ruleIs("st19;k", 2, 19);
        ruleIs("k", 2, 10);
        ruleIs("sm2p1;k", 2, 10);
    }

    @Kit.Sentence(promise = 0, says = "v VALUE (0 .. 99; 0)")
    private static void theValueIsZeroTo99() {
        valueIs("kv0", 0);
        valueIs("kv00", 0);
        valueIs("kv99", 99);
        valueIs("k", 0);
        storeFault("kv100", 4);
        storeFault("kv000", 4);
        LateStamps x = Kit.store("kv7;kv8");
        Kit.tell(x, "k;k", 0);
        Kit.due("0 without, whatever was told before", x.version(0, 0, 1) + x.version(1, 0, 1), 0);
        x = new LateStamps();
        Kit.feed(x, "kv9;kv9;x");
        x.fault(0);
        Kit.tell(x, "k;k", 0);
        Kit.due("0 without, whatever was judged before", x.version(0, 0, 1) + x.version(1, 0, 1), 0);
    }

    @Kit.Sentence(promise = 0, says = "Blanks (32) may stand between all signs of both, not within a number.")
    private static void blanksStandBetweenSigns() {
        storeFault(" k ", NONE);
        storeFault("  s  m  9  p  1  t  20  ;  k  v  99  ;  k  ", NONE);
        storeFault("kv9 9", 4);
        storeFault("st2 0;k", 4);
        storeFault("sm1 0;k", 2);
        scriptFault("  p  ;  p  ", NONE);
        scriptFault(" o 0 1 ; r 0 0 ; w 0 0 : 99 ; c 0 ; a 0 ; p ", NONE);
        scriptFault("w00:9 9", 6);
        for (int sign : new int[] {1, 9, 10, 13, 31, 33, 95, 127, 160, 255}) {
            storeFault("k" + (char) sign, 1);
            storeFault((char) sign + "k", 0);
            scriptFault("p" + (char) sign, 1);
            scriptFault((char) sign + "p", 0);
        }
    }

    @Kit.Sentence(promise = 0, says = "the first byte at which no such TEXT can go on")
    private static void aWrongSignIsToldAtItsPlace() {
        storeFault("x", 0);
        storeFault(";k", 0);
        storeFault("K", 0);
        storeFault("k;;k", 2);
        storeFault("k;x", 2);
        storeFault("k k", 2);
        storeFault("ks", 1);
        storeFault("k:k", 1);
        storeFault("k1", 1);
        storeFault("s1;k", 1);
        storeFault("kv1x", 3);
        storeFault("kv12,k", 4);
        scriptFault("x", 0);
        scriptFault("k", 0);
        scriptFault(";p", 0);
        scriptFault("p;;p", 2);
        scriptFault("pp", 1);
        scriptFault("p p", 2);
        scriptFault("P", 0);
        scriptFault("c0,c1", 2);
        scriptFault("o0x", 2);
        scriptFault("ox0", 1);
        scriptFault("w00:0:", 5);
    }

    @Kit.Sentence(promise = 0, says = "(the length, if it ends too early, or without a KEY)")
    private static void whatEndsTooEarlyIsToldByItsLength() {
        storeFault("", 0);
        storeFault("   ", 3);
        storeFault("s", 1);
        storeFault("s ", 2);
        storeFault("sm", 2);
        storeFault("sm ", 3);
        storeFault("s;", 2);
        storeFault("sp1", 3);
        storeFault("sp1 ;  ", 7);
        storeFault("k;", 2);
        storeFault("k; ", 3);
        storeFault("k;k;kv", 6);
        storeFault("s;k;k;k;k;k;k;", 14);
        scriptFault("", 0);
        scriptFault("  ", 2);
        scriptFault("p;", 2);
        scriptFault("p; ", 3);
        scriptFault("o", 1);
        scriptFault("o1", 2);
        scriptFault("r1 ", 3);
        scriptFault("w", 1);
        scriptFault("w1", 2);
        scriptFault("w11", 3);
        scriptFault("w11:", 4);
        scriptFault("w11: ", 5);
        scriptFault("c", 1);
        scriptFault("a ", 2);
    }

    @Kit.Sentence(promise = 0, says = "a number out of bounds is wrong at its last digit")
    private static void aNumberOutOfBoundsIsWrongAtItsLastDigit() {
        storeFault("sm1", 2);
        storeFault("sm1 ;k", 2);
        storeFault("sm10", 3);
        storeFault("sm 1;k", 3);
        storeFault("sm 10 ;k", 4);
        storeFault("sm2p2;k", 4);
        storeFault("sm2p1t21;k", 7);
        storeFault("k;st1", 4);
    }

    @Kit.Sentence(promise = 0, says = "a third digit itself, whatever stands ahead of it")
    private static void aThirdDigitIsWrongItself() {
        storeFault("sm002;k", 4);
        storeFault("sm100;k", 4);
        storeFault("sm999;k", 4);
        storeFault("sp001;k", 4);
        storeFault("st200;k", 4);
        storeFault("st210;k", 4);
        storeFault("st 2000;k", 5);
        storeFault("kv100", 4);
        storeFault("kv1000", 4);
        scriptFault("w00:000", 6);
        scriptFault("w00:1000", 6);
        scriptFault("w00:999;p", 6);
    }

    @Kit.Sentence(promise = 0, says = "a letter that was there, a second s, a seventh k, the ; ahead of a 17th STEP.")
    private static void whatIsThereOnceTooOftenIsWrongItself() {
        storeFault("kv1v", 3);
        storeFault("s;s", 2);
        storeFault("k;k;k;k;k;k;k", 12);
        storeFault("k;k;k;k;k;k ; k", 14);
        scriptFault(steps(16) + ";", 31);
        scriptFault(steps(17), 31);
        scriptFault(steps(16) + " ; p", 32);
    }

    // ---- 4: FAULT of a SCRIPT ----

    @Kit.Sentence(promise = 0, says = "STEPS with ; between, 1 to 16")
    private static void aScriptHasOneToSixteenSteps() {
        scriptFault("", 0);
        scriptFault(steps(1), NONE);
        scriptFault(steps(15), NONE);
        scriptFault(steps(16), NONE);
        scriptFault(steps(16) + "  ", NONE);
        scriptFault(steps(16) + "x", 31);
        LateStamps x = new LateStamps();
        Kit.tell(x, "p;p;p;p;p;p;p;p;p;p;p;p;p;p;p;w98:76", 1);
        Kit.due("the 16th", x.step(0, 15, 3), 76);
        Kit.due("no 17th", x.step(0, 16, 0), HIDDEN);
    }

    @Kit.Sentence(promise = 0, says = "o and two digits")
    private static void oHasTwoDigits() {
        scriptFault("o", 1);
        scriptFault("o;p", 1);
        scriptFault("o0;p", 2);
        scriptFault("o00", NONE);
        scriptFault("o000", 3);
        scriptFault("o00:1", 3);
    }

    @Kit.Sentence(promise = 0, says = "r and two digits")
    private static void rHasTwoDigits() {
        scriptFault("r;p", 1);
        scriptFault("r0;p", 2);
        scriptFault("r00", NONE);
        scriptFault("r000", 3);
        scriptFault("r00:1", 3);
    }

    @Kit.Sentence(promise = 0, says = "w, two digits, : , a number (one or two digits)")
    private static void wHasTwoDigitsAndAValue() {
        scriptFault("w;p", 1);
        scriptFault("w0:0", 2);
        scriptFault("w00;p", 3);
        scriptFault("w000:0", 3);
        scriptFault("w00:;p", 4);
        scriptFault("w00:x", 4);
        scriptFault("w00::", 4);
        scriptFault("w00:0", NONE);
        scriptFault("w00:99", NONE);
        scriptFault("w00:100", 6);
        LateStamps x = new LateStamps();
        Kit.tell(x, "w00:0;w00:07;w00:99", 1);
        Kit.due("0", x.step(0, 0, 3), 0);
        Kit.due("07", x.step(0, 1, 3), 7);
        Kit.due("99", x.step(0, 2, 3), 99);
    }

    @Kit.Sentence(promise = 0, says = "c and a digit")
    private static void cHasADigit() {
        scriptFault("c;p", 1);
        scriptFault("c0", NONE);
        scriptFault("c00", 2);
        scriptFault("c 0 0", 4);
    }

    @Kit.Sentence(promise = 0, says = "a and a digit")
    private static void aHasADigit() {
        scriptFault("a;p", 1);
        scriptFault("a9", NONE);
        scriptFault("a99", 2);
    }

    @Kit.Sentence(promise = 0, says = "p: it is PRUNED.")
    private static void pHasNoDigit() {
        scriptFault("p", NONE);
        scriptFault("p0", 1);
        scriptFault("p 0", 2);
    }

    @Kit.Sentence(promise = 0, says = "(What a STEP tells that can't be is no FAULT.)")
    private static void whatCantBeIsNoFault() {
        scriptFault("o99;r99;w99:0;c9;a9;p", NONE);
        scriptFault("o09;c0;c0;c0", NONE);
        LateStamps x = Kit.store("k");
        Kit.due("it is taken", Kit.tell(x, "o99;r99;w99:0;c9;a9", 1), 0);
        Kit.due("but can't be", x.run(0, 0), 0);
    }

    @Kit.Sentence(promise = 4, says = "NONE: none. -2: no such sort.")
    private static void faultHasTwoSorts() {
        LateStamps x = new LateStamps();
        Kit.feed(x, "k");
        Kit.due("fault(0)", x.fault(0), NONE);
        Kit.due("fault(1)", x.fault(1), 0);
        Kit.due("fault(2)", x.fault(2), -2);
        Kit.due("fault(-1)", x.fault(-1), -2);
        for (int far : Kit.FAR) Kit.due("fault(" + far + ")", x.fault(far), -2);
        x.end(0);
        Kit.feed(x, "p");
        Kit.due("fault(0)", x.fault(0), 0);
        Kit.due("fault(1)", x.fault(1), NONE);
        Kit.due("the TAPE stays", x.count(2), 1);
        Kit.due("no SCRIPT came of it", x.count(1), 0);
    }

    // ---- 5: text ----

    @Kit.Sentence(promise = 5, says = "The TAPE (empty then) is the STORE")
    private static void theTapeIsEmptyBehindAText() {
        LateStamps x = new LateStamps();
        Kit.feed(x, "k;k");
        Kit.due("text(0)", x.text(0), 2);
        Kit.due("empty", x.count(2), 0);
        Kit.due("an empty TAPE is none", x.text(0), NONE);
        Kit.feed(x, "p");
        Kit.due("text(1)", x.text(1), 0);
        Kit.due("empty", x.count(2), 0);
        Kit.due("an empty TAPE is none", x.text(1), NONE);
    }

    @Kit.Sentence(promise = 5, says = "NONE: a FAULT (the TAPE stays), no such sort, there are four SCRIPTS.")
    private static void aFaultLeavesTapeAndStore() {
        LateStamps x = Kit.store("sm3;kv4;kv5");
        x.open(0, 1);
        x.write(0, 0, 6);
        x.image();
        Kit.feed(x, "sm4;k;k;k;kv100");
        Kit.leaves(x, NONE, () -> x.text(0));
        Kit.due("the TAPE stays", x.count(2), 15);
        Kit.due("MOST", x.rule(0), 3);
        Kit.due("the IMAGE stays", x.back(), 10);
        x.end(0);
        Kit.feed(x, "o01;c0;w00:100");
        Kit.leaves(x, NONE, () -> x.text(1));
        Kit.due("the TAPE stays", x.count(2), 14);
        Kit.due("no SCRIPT", x.step(0, 0, 0), HIDDEN);
        x.end(6);
        Kit.due("what is left is one", x.text(1), 0);
        Kit.due("of two STEPS", x.step(0, 2, 0), HIDDEN);
    }

    @Kit.Sentence(promise = 5, says = "NONE: a FAULT (the TAPE stays), no such sort, there are four SCRIPTS.")
    private static void noSuchSortLeavesTheTape() {
        LateStamps x = Kit.store("k");
        Kit.feed(x, "k");
        Kit.leaves(x, NONE, () -> x.text(2), () -> x.text(-1), () -> x.text(Integer.MIN_VALUE),
            () -> x.text(Integer.MAX_VALUE));
        Kit.due("the TAPE stays", x.count(2), 1);
        Kit.due("and is a STORE", x.text(0), 1);
    }

    @Kit.Sentence(promise = 0, says = "SCRIPTS (4 at most)")
    private static void thereAreFourScriptsAtMost() {
        LateStamps x = Kit.store("k");
        String[] texts = {"c0", "c1", "c2", "c3"};
        for (int i = 0; i < 4; i++) Kit.due("its number", Kit.tell(x, texts[i], 1), i);
        Kit.feed(x, "c4");
        Kit.due("no FAULT", x.fault(1), NONE);
        Kit.leaves(x, NONE, () -> x.text(1));
        Kit.due("the TAPE stays", x.count(2), 2);
        Kit.due("four", x.count(1), 4);
        for (int i = 0; i < 4; i++) Kit.due("SCRIPT " + i, x.step(i, 0, 1), i);
        Kit.due("no fifth", x.step(4, 0, 0), HIDDEN);
        Kit.tell(x, "k;k", 0);
        Kit.feed(x, "c4");
        Kit.due("a STORE makes no room", x.text(1), NONE);
        for (int i = 0; i < 4; i++) Kit.due("SCRIPT " + i, x.step(i, 0, 1), i);
    }

    @Kit.Sentence(promise = 5,
        says = "(nobody at a SEAT; all that was of another one is gone but SCRIPTS, STATUS): how many KEYS")
    private static void aNewStoreIsAsNew() {
        LateStamps x = Kit.store("sm9p1t3;kv1;kv2;kv3");
        Kit.tell(x, "o00;c0", 1);
        x.open(0, 1);
        x.open(1, 1);
        x.openAt(2, 0, 4);
        x.write(0, 0, 7);
        x.read(1, 0);
        x.commit(1);
        x.open(9, 0);
        x.image();
        x.prune();
        Kit.due("KEYS", Kit.tell(x, "kv5;k", 0), 2);
        LateStamps y = Kit.store("kv5;k");
        Kit.tell(y, "o00;c0", 1);
        Kit.due("as a new one", Kit.look(x).equals(Kit.look(y)), true);
        for (int what = 0; what < 3; what++) Kit.due("rule(" + what + ")", x.rule(what), y.rule(what));
        Kit.due("no third KEY", x.versions(2), NONE);
        Kit.due("no IMAGE", x.back(), NONE);
        Kit.due("nothing to UNDO", x.undo(), NONE);
        Kit.due("no LOG", x.log(0, 0), HIDDEN);
        Kit.due("the SCRIPT stays", x.step(0, 1, 0), 3);
        Kit.statusIs(x, 1, 0, 0, 0);
    }

    @Kit.Sentence(promise = 5, says = "a SCRIPT: its number.")
    private static void aScriptNeedsNoStoreAndLeavesIt() {
        LateStamps x = new LateStamps();
        Kit.due("without a STORE", Kit.tell(x, "p", 1), 0);
        Kit.tell(x, "k", 0);
        x.open(0, 0);
        x.image();
        Kit.due("with one", Kit.tell(x, "p", 1), 1);
        Kit.due("it stays", x.seat(0, 0), 1);
        Kit.due("so do ACTS", x.count(5), 1);
        Kit.due("and the IMAGE", x.back(), 10);
    }

    // ---- 6: rule; 30: step ----

    @Kit.Sentence(promise = 6, says = "NONE: no STORE, no such what.")
    private static void ruleHasThree() {
        for (int what = -1; what < 4; what++) Kit.due("no STORE", new LateStamps().rule(what), NONE);
        LateStamps x = Kit.store("sm4p1t5;k");
        Kit.due("MOST", x.rule(0), 4);
        Kit.due("how it is PRUNED", x.rule(1), 1);
        Kit.due("STRIDE", x.rule(2), 5);
        Kit.leaves(x, NONE, () -> x.rule(3), () -> x.rule(-1));
        for (int far : Kit.FAR) Kit.due("rule(" + far + ")", x.rule(far), NONE);
    }

    @Kit.Sentence(promise = 30,
        says = "0 what (0 o, 1 r, 2 w, 3 c, 4 a, 5 p), 1, 2 its digits (NONE), 3 its VALUE (NONE).")
    private static void aStepTellsNoneForWhatItHasNot() {
        LateStamps x = new LateStamps();
        Kit.tell(x, "o09;r90;w99:0;c9;a0;p", 1);
        int[][] want = {{0, 0, 9, NONE}, {1, 9, 0, NONE}, {2, 9, 9, 0}, {3, 9, NONE, NONE}, {4, 0, NONE, NONE},
            {5, NONE, NONE, NONE}};
        for (int i = 0; i < 6; i++) {
            for (int what = 0; what < 4; what++) Kit.due("step", x.step(0, i, what), want[i][what]);
        }
        Kit.tell(x, "w99:99", 1);
        Kit.tell(x, "p", 1);
        for (int what = 1; what < 4; what++) Kit.due("nothing of another SCRIPT", x.step(2, 0, what), NONE);
    }

    @Kit.Sentence(promise = 30, says = "HIDDEN: no such ones.")
    private static void noSuchStep() {
        LateStamps x = new LateStamps();
        Kit.due("no SCRIPT", x.step(0, 0, 0), HIDDEN);
        Kit.tell(x, "o00;p", 1);
        Kit.due("the last", x.step(0, 1, 0), 5);
        Kit.leaves(x, HIDDEN, () -> x.step(1, 0, 0), () -> x.step(-1, 0, 0), () -> x.step(4, 0, 0),
            () -> x.step(0, 2, 0), () -> x.step(0, -1, 0), () -> x.step(0, 16, 0), () -> x.step(0, 0, 4),
            () -> x.step(0, 0, -1));
        for (int far : Kit.FAR) {
            Kit.due("SCRIPT " + far, x.step(far, 0, 0), HIDDEN);
            Kit.due("STEP " + far, x.step(0, far, 0), HIDDEN);
            Kit.due("what " + far, x.step(0, 0, far), HIDDEN);
        }
    }
}
