/** Each promise of the document by its number; answers are worked out by hand from its words. */
public final class PromisesTest {
    private static final int NONE = -1, BAD = -2, NOT = -3, FULL = -4;
    private static final int NULL = -11, INDEX = -12, CAST = -13, STORE = -14, SIZE = -15;
    private static final int LEAST = Integer.MIN_VALUE;
    private static final long BAD_LONG = Long.MIN_VALUE + 2;

    /** CRESTS at 0, 4, 8 .. and 0, 6, 12 ..: of each 12 TIMES 0 (DOUBLE), 4, 6, 8; 80 WAVES. */
    private static final String TWO = "20400;30600";
    /** CRESTS at 0, 3, 6 ..: 80 WAVES, NUMBER t / 3 + 1. */
    private static final String THREES = "10300";
    /** CRESTS at 0, 99 and 198, all DOUBLE. */
    private static final String TWINS = "29900;29900";

    private static final Due DUE = new Due();
    private static int promise = 0;

    private PromisesTest() {
    }

    public static void main(String[] args) {
        aNewObject();
        type();
        wipe();
        undo();
        fault();
        swell();
        find();
        depth();
        slip();
        wake();
        ticket();
        back();
        read();
        high();
        wave();
        when();
        called();
        brings();
        claims();
        good();
        agree();
        run();
        bar();
        earn();
        heard();
        forget();
        skipped();
        voids();
        often();
        hoarse();
        storm();
        sheet();
        lose();
        put();
        get();
        copy();
        write();
        count();
        digest();
        DUE.isTrue("39 promises were looked at", promise == 39);
        DUE.end();
    }

    private static void is(String call, long got, long want) {
        DUE.is("promise " + promise + ": " + call, got, want);
    }

    private static NumberedWaves coast(String swells, String finds) {
        return Due.coast(swells, finds);
    }

    private static void aNewObject() {
        promise = 1;
        NumberedWaves x = new NumberedWaves();
        for (int what = 0; what <= 8; what++) {
            is("count(" + what + ")", x.count(what), 0);
        }
        for (int s = 0; s < 4; s++) {
            is("lose(" + s + ")", x.lose(s), NULL);
        }
        for (int what = 0; what < 3; what++) {
            is("back(" + what + ")", x.back(what), NOT);
        }
        is("depth(0)", x.depth(0), 0);
        is("swell(0, 0)", x.swell(0, 0), BAD);
        is("find(0, 0)", x.find(0, 0), BAD);
        NumberedWaves y = coast(TWO, "01007");
        y.ticket(0, 1);
        is("another object's count(5)", new NumberedWaves().count(5), 0);
        is("another object's high(0)", new NumberedWaves().high(0), 0);
    }

    private static void type() {
        promise = 2;
        NumberedWaves x = new NumberedWaves();
        is("type(-1, 48)", x.type(-1, 48), BAD);
        is("type(2, 48)", x.type(2, 48), BAD);
        is("type(0, -1)", x.type(0, -1), BAD);
        is("type(0, 256)", x.type(0, 256), BAD);
        is("count(2)", x.count(2), 0);
        for (int i = 1; i <= 35; i++) {
            is("type(0, ..)", x.type(0, i % 2 == 0 ? 0 : 255), i);
        }
        is("type(0, 48) of a full one", x.type(0, 48), FULL);
        is("type(0, 256) of a full one", x.type(0, 256), BAD);
        for (int i = 1; i <= 47; i++) {
            is("type(1, ..)", x.type(1, 48), i);
        }
        is("type(1, 48) of a full one", x.type(1, 48), FULL);
        is("count(2)", x.count(2), 35);
        is("count(3)", x.count(3), 47);
        NumberedWaves y = coast("1020", "");
        is("high(0), not ended", y.high(0), 0);
        is("type(0, 48)", y.type(0, '0'), 5);
        is("high(0), ended behind a question", y.high(0), 1);
    }

    private static void wipe() {
        promise = 3;
        NumberedWaves x = coast(TWO, "01007");
        is("wipe(-1)", x.wipe(-1), BAD);
        is("wipe(2)", x.wipe(2), BAD);
        is("wipe(0)", x.wipe(0), 11);
        is("wipe(0) again", x.wipe(0), 0);
        is("count(3)", x.count(3), 5);
        is("high(0)", x.high(0), 0);
        is("wipe(1)", x.wipe(1), 5);
        is("brings(1)", x.brings(1), 0);
        Due.typeAll(x, 0, "90200");
        is("high(2)", x.high(2), 9);
    }

    private static void undo() {
        promise = 4;
        NumberedWaves x = coast("10205", "01007");
        is("undo(-1)", x.undo(-1), BAD);
        is("undo(2)", x.undo(2), BAD);
        is("high(5)", x.high(5), 1);
        is("undo(0)", x.undo(0), 4);
        is("high(5), not ended", x.high(5), 0);
        x.type(0, '6');
        is("swell(0, 2)", x.swell(0, 2), 6);
        for (int left = 4; left >= 0; left--) {
            is("undo(0)", x.undo(0), left);
        }
        is("undo(0) of an empty one", x.undo(0), NOT);
        is("undo(1)", x.undo(1), 4);
        is("brings(1), not ended", x.brings(1), 0);
    }

    private static void faultIs(int text, String bytes, int want) {
        NumberedWaves x = new NumberedWaves();
        Due.typeAll(x, text, bytes);
        is("fault(" + text + ") of \"" + bytes + "\"", x.fault(text), want);
        boolean empty = want != NONE || bytes.isEmpty();
        is("laws of \"" + bytes + "\"", x.count(text), empty ? 0 : (bytes.length() + 1) / 6);
        is("bytes of \"" + bytes + "\"", x.count(2 + text), bytes.length());
    }

    private static void fault() {
        promise = 5;
        NumberedWaves x = new NumberedWaves();
        is("fault(-1)", x.fault(-1), BAD);
        is("fault(2)", x.fault(2), BAD);
        faultIs(0, "", NONE);
        faultIs(0, "10200", NONE);
        faultIs(0, "99999", NONE);
        faultIs(0, "00200", 0);
        faultIs(0, "10000", 2);
        faultIs(0, "10100", 2);
        faultIs(0, "11000", NONE);
        faultIs(0, "1", 1);
        faultIs(0, "10", 2);
        faultIs(0, "102", 3);
        faultIs(0, "1020", 4);
        faultIs(0, "x", 0);
        faultIs(0, "1x", 1);
        faultIs(0, "10:", 2);
        faultIs(0, "102/0", 3);
        faultIs(0, "1020;", 4);
        faultIs(0, "102000", 5);
        faultIs(0, "10200,", 5);
        faultIs(0, "10200;", 6);
        faultIs(0, "10200;0", 6);
        faultIs(0, "10200;;", 6);
        faultIs(0, "10200;20101", 8);
        faultIs(0, "10200;20201;30303;40404;50505;60606", NONE);
        faultIs(0, "10200;20201;30303;40404;50505;6060", 34);
        faultIs(0, "x0200;00200", 0);
        faultIs(1, "", NONE);
        faultIs(1, "01000", NONE);
        faultIs(1, "99999", NONE);
        faultIs(1, "00000", 1);
        faultIs(1, "10000", NONE);
        faultIs(1, "0", 1);
        faultIs(1, "0100", 4);
        faultIs(1, "0100x", 4);
        faultIs(1, "010000", 5);
        faultIs(1, "01000;", 6);
        faultIs(1, "01000;00", 7);
        faultIs(1, "01000;02000;03000;04000;05000;06000;07000;08000", NONE);
        faultIs(1, "01000;02000;03000;04000;05000;06000;07000;0800;", 46);
    }

    private static void swell() {
        promise = 6;
        NumberedWaves x = coast("10299;99900;50317", "");
        int[] want = {1, 2, 99, 9, 99, 0, 5, 3, 17};
        for (int i = 0; i < 9; i++) {
            is("swell(" + i / 3 + ", " + i % 3 + ")", x.swell(i / 3, i % 3), want[i]);
        }
        is("swell(3, 0)", x.swell(3, 0), BAD);
        is("swell(-1, 0)", x.swell(-1, 0), BAD);
        is("swell(0, 3)", x.swell(0, 3), BAD);
        is("swell(0, -1)", x.swell(0, -1), BAD);
        x.type(0, ';');
        is("swell(0, 0) with a FAULT", x.swell(0, 0), BAD);
    }

    private static void find() {
        promise = 7;
        NumberedWaves x = coast("", "01990;99009;12345");
        int[] want = {1, 99, 0, 99, 0, 9, 12, 34, 5};
        for (int i = 0; i < 9; i++) {
            is("find(" + i / 3 + ", " + i % 3 + ")", x.find(i / 3, i % 3), want[i]);
        }
        is("find(3, 0)", x.find(3, 0), BAD);
        is("find(-1, 0)", x.find(-1, 0), BAD);
        is("find(0, 3)", x.find(0, 3), BAD);
        is("find(0, -1)", x.find(0, -1), BAD);
        x.type(1, '1');
        is("find(0, 0) with a FAULT", x.find(0, 0), BAD);
    }

    private static void depth() {
        promise = 8;
        NumberedWaves x = coast(TWO, "");
        is("depth(-1)", x.depth(-1), BAD);
        is("depth(56)", x.depth(56), BAD);
        is("depth(3)", x.depth(3), 0);
        is("count(4)", x.count(4), 40);
        is("depth(56)", x.depth(56), BAD);
        is("depth(5)", x.depth(5), 3);
        is("count(4)", x.count(4), 20);
        is("depth(55)", x.depth(55), 5);
        is("count(4)", x.count(4), 0);
        is("depth(0)", x.depth(0), 55);
        is("count(4): HIGH of 0 does not break", x.count(4), 80);
    }

    private static void slip() {
        promise = 9;
        NumberedWaves x = coast(THREES, "");
        is("slip(0, 1)", x.slip(0, 1), BAD);
        is("slip(241, 1)", x.slip(241, 1), BAD);
        is("slip(1, 0)", x.slip(1, 0), BAD);
        is("slip(1, 12)", x.slip(1, 12), BAD);
        is("slip(2, 3)", x.slip(2, 3), 1);
        is("wave(0, 1)", x.wave(0, 1), 1);
        is("wave(3, 1)", x.wave(3, 1), 5);
        is("wave(6, 1)", x.wave(6, 1), 6);
        is("slip(2, 11)", x.slip(2, 11), 2);
        is("wave(3, 1), both", x.wave(3, 1), 16);
        is("slip(240, 1)", x.slip(240, 1), 3);
        is("count(6)", x.count(6), 94);
        is("slip(1, 1)", x.slip(1, 1), 4);
        is("wave(0, 1)", x.wave(0, 1), 2);
        for (int many = 5; many <= 12; many++) {
            is("slip(80, 11)", x.slip(80, 11), many);
        }
        is("slip(80, 1) of too many", x.slip(80, 1), FULL);
        is("slip(0, 1) of too many", x.slip(0, 1), BAD);
        is("count(6)", x.count(6), 80 + 3 + 11 + 1 + 8 * 11);
        NumberedWaves y = coast("10200;10201", "");
        is("wave(239, 1): the 240th", y.wave(239, 1), 240);
        for (int i = 0; i < 12; i++) {
            y.slip(240, 11);
        }
        is("wave(238, 1)", y.wave(238, 1), 239);
        is("wave(239, 1): the highest NUMBER", y.wave(239, 1), 372);
        is("when(372)", y.when(372), 239);
    }

    private static void wake() {
        promise = 10;
        NumberedWaves x = coast(THREES, "");
        is("wake(-1)", x.wake(-1), BAD);
        is("wake(240)", x.wake(240), BAD);
        is("wake(3)", x.wake(3), 1);
        is("wave(3, 0)", x.wave(3, 0), 1);
        is("wave(3, 1)", x.wave(3, 1), 0);
        is("wave(6, 1)", x.wave(6, 1), 2);
        is("wake(3)", x.wake(3), 2);
        is("wave(6, 1), twice void", x.wave(6, 1), 2);
        is("wake(4)", x.wake(4), 3);
        is("wave(6, 1), a WAKE by no WAVE", x.wave(6, 1), 2);
        is("wake(0)", x.wake(0), 4);
        is("wave(6, 1)", x.wave(6, 1), 1);
        is("wake(239)", x.wake(239), 5);
        for (int many = 6; many <= 8; many++) {
            is("wake(9)", x.wake(9), many);
        }
        is("wake(12) of too many", x.wake(12), FULL);
        is("wake(240) of too many", x.wake(240), BAD);
        is("wave(12, 1)", x.wave(12, 1), 2);
        x.slip(1, 2);
        is("wave(6, 1): a SLIP is of those that are called", x.wave(6, 1), 3);
    }

    private static void ticket() {
        promise = 11;
        NumberedWaves x = coast(THREES, "01009");
        is("ticket(-1, 1)", x.ticket(-1, 1), BAD);
        is("ticket(8, 1)", x.ticket(8, 1), BAD);
        is("ticket(0, 0)", x.ticket(0, 0), BAD);
        is("ticket(0, 401)", x.ticket(0, 401), BAD);
        is("ticket(7, 400)", x.ticket(7, 400), 1);
        is("ticket(0, 1)", x.ticket(0, 1), 2);
        is("claims(0)", x.claims(0), 9);
        for (int many = 3; many <= 12; many++) {
            is("ticket(1, 2)", x.ticket(1, 2), many);
        }
        is("ticket(0, 3) of too many", x.ticket(0, 3), FULL);
        is("ticket(0, 0) of too many", x.ticket(0, 0), BAD);
        is("count(5)", x.count(5), 12);
        is("claims(0)", x.claims(0), 9);
    }

    private static void back() {
        promise = 12;
        NumberedWaves x = coast(THREES, "01009");
        is("back(-1)", x.back(-1), BAD);
        is("back(3)", x.back(3), BAD);
        x.slip(1, 1);
        x.slip(2, 5);
        x.wake(0);
        x.wake(3);
        x.ticket(0, 2);
        x.ticket(0, 8);
        is("wave(6, 1)", x.wave(6, 1), 2);
        is("back(1)", x.back(1), 1);
        is("wave(3, 1)", x.wave(3, 1), 2);
        is("wave(6, 1)", x.wave(6, 1), 8);
        is("claims(0)", x.claims(0), 18);
        is("back(0)", x.back(0), 1);
        is("wave(6, 1)", x.wave(6, 1), 3);
        is("back(2)", x.back(2), 1);
        is("claims(0)", x.claims(0), 9);
        is("back(0)", x.back(0), 0);
        is("back(0) of none", x.back(0), NOT);
        is("back(1)", x.back(1), 0);
        is("back(1) of none", x.back(1), NOT);
        is("back(2)", x.back(2), 0);
        is("back(2) of none", x.back(2), NOT);
        is("wave(6, 1)", x.wave(6, 1), 3);
    }

    private static void putAll(NumberedWaves x, int s, int form, int... items) {
        x.sheet(s, form, items.length);
        for (int i = 0; i < items.length; i++) {
            x.put(s, form, i, items[i]);
        }
    }

    private static void read() {
        promise = 13;
        NumberedWaves x = coast(THREES, "01009");
        is("read(-1)", x.read(-1), BAD);
        is("read(4)", x.read(4), BAD);
        is("count(8)", x.count(8), 0);
        is("read(0) of a LOST one", x.read(0), NULL);
        is("count(8)", x.count(8), 1);
        putAll(x, 0, 2, 3, 1, 3, 2, 4, 3, 5);
        is("read(0): the odd item is left", x.read(0), 3);
        is("count(5)", x.count(5), 3);
        is("claims(3)", x.claims(3), 18);
        is("claims(4)", x.claims(4), 9);
        putAll(x, 1, 1, 5, 4, 5, 401, 5, 5);
        is("read(1): up to one that may not be", x.read(1), 1);
        is("count(5): behind those that were told", x.count(5), 4);
        is("claims(5)", x.claims(5), 9);
        is("claims(3)", x.claims(3), 18);
        putAll(x, 2, 0, 8, 1, 0, 1);
        is("read(2): the first may not be", x.read(2), 0);
        putAll(x, 2, 0, 6, 127, 6, 128);
        is("read(2): a byte of 128 is below 0", x.read(2), 1);
        x.sheet(3, 2, 0);
        is("read(3) of no items", x.read(3), 0);
        x.sheet(3, 2, 48);
        for (int i = 1; i < 48; i += 2) {
            x.put(3, 2, i, i);
        }
        is("read(3): up to 12 in all", x.read(3), 7);
        is("count(5)", x.count(5), 12);
        is("read(3) of too many", x.read(3), 0);
        is("count(8)", x.count(8), 1);
    }

    private static void high() {
        promise = 14;
        NumberedWaves x = coast("20400;30600;90299", "");
        is("high(-1)", x.high(-1), BAD);
        is("high(240)", x.high(240), BAD);
        is("high(0)", x.high(0), 5);
        is("high(1)", x.high(1), 0);
        is("high(4)", x.high(4), 2);
        is("high(6)", x.high(6), 3);
        is("high(97): ahead of its TIME", x.high(97), 0);
        is("high(99)", x.high(99), 9);
        is("high(101)", x.high(101), 9);
        is("high(239)", x.high(239), 9);
        x.depth(55);
        is("high(0) below DEPTH", x.high(0), 5);
        x.wake(0);
        is("high(0), void", x.high(0), 5);
        NumberedWaves y = coast("90200;90200;90200;90200;90200;90200", "");
        is("high(238)", y.high(238), 54);
    }

    private static void wave() {
        promise = 15;
        NumberedWaves x = coast(TWO, "");
        is("wave(-1, 0)", x.wave(-1, 0), BAD);
        is("wave(240, 0)", x.wave(240, 0), BAD);
        is("wave(0, -1)", x.wave(0, -1), BAD);
        is("wave(0, 3)", x.wave(0, 3), BAD);
        int[] times = {0, 1, 4, 6, 8, 12, 236, 239};
        int[] breaks = {1, 0, 1, 1, 1, 1, 1, 0};
        int[] numbers = {1, 0, 2, 3, 4, 5, 80, 0};
        int[] doubles = {1, 0, 0, 0, 0, 1, 0, 0};
        for (int i = 0; i < times.length; i++) {
            is("wave(" + times[i] + ", 0)", x.wave(times[i], 0), breaks[i]);
            is("wave(" + times[i] + ", 1)", x.wave(times[i], 1), numbers[i]);
            is("wave(" + times[i] + ", 2)", x.wave(times[i], 2), doubles[i]);
        }
        x.wake(12);
        is("wave(12, 0), void", x.wave(12, 0), 1);
        is("wave(12, 1), void", x.wave(12, 1), 0);
        is("wave(12, 2), void", x.wave(12, 2), 1);
        is("wave(16, 1)", x.wave(16, 1), 5);
        x.depth(3);
        is("wave(4, 0) below DEPTH", x.wave(4, 0), 0);
        is("wave(4, 1) below DEPTH", x.wave(4, 1), 0);
        is("wave(6, 0) of DEPTH", x.wave(6, 0), 1);
        is("wave(6, 1) of DEPTH", x.wave(6, 1), 2);
        x.depth(6);
        is("wave(0, 0) below DEPTH", x.wave(0, 0), 0);
        is("wave(0, 2): two CRESTS all the same", x.wave(0, 2), 1);
    }

    private static void when() {
        promise = 16;
        NumberedWaves x = coast(THREES, "");
        is("when(0)", x.when(0), BAD);
        is("when(401)", x.when(401), BAD);
        is("when(1)", x.when(1), 0);
        is("when(80)", x.when(80), 237);
        is("when(81)", x.when(81), NONE);
        is("when(400)", x.when(400), NONE);
        x.slip(2, 1);
        is("when(2), skipped", x.when(2), NONE);
        is("when(3)", x.when(3), 3);
        is("when(81)", x.when(81), 237);
    }

    private static void called() {
        promise = 17;
        NumberedWaves x = coast(THREES, "");
        is("called(-1, 0)", x.called(-1, 0), BAD);
        is("called(0, -1)", x.called(0, -1), BAD);
        is("called(240, 0)", x.called(240, 0), BAD);
        is("called(0, 240)", x.called(0, 240), BAD);
        is("called(0, 0)", x.called(0, 0), 1);
        is("called(0, 239)", x.called(0, 239), 80);
        is("called(3, 9)", x.called(3, 9), 3);
        is("called(4, 8)", x.called(4, 8), 1);
        is("called(9, 3)", x.called(9, 3), 0);
        x.wake(6);
        x.slip(1, 9);
        is("called(3, 9), one void", x.called(3, 9), 2);
    }

    private static void brings() {
        promise = 18;
        NumberedWaves x = coast("", "02013;07002;10119;01001");
        is("brings(0)", x.brings(0), BAD);
        is("brings(401)", x.brings(401), BAD);
        is("brings(1)", x.brings(1), 4);
        is("brings(2)", x.brings(2), 1);
        is("brings(7)", x.brings(7), 6);
        is("brings(11): a REST of 11 by 10 never is", x.brings(11), 4);
        is("brings(14)", x.brings(14), 3);
        is("brings(400)", x.brings(400), 1);
        is("brings(399)", x.brings(399), 6);
        NumberedWaves y = coast("", "01009;01009;01009;01009;01009;01009;01009;01009");
        is("brings(400)", y.brings(400), 72);
    }

    private static void claims() {
        promise = 19;
        NumberedWaves x = coast(TWO, "01007");
        is("claims(-1)", x.claims(-1), BAD);
        is("claims(8)", x.claims(8), BAD);
        x.ticket(0, 1);
        x.ticket(1, 2);
        x.ticket(2, 5);
        x.ticket(3, 1);
        x.ticket(4, 3);
        x.ticket(4, 4);
        x.ticket(5, 81);
        int[] want = {3, 10, 3, 0, 14, 0, 0, 0};
        for (int holder = 0; holder < 8; holder++) {
            is("claims(" + holder + ")", x.claims(holder), want[holder]);
        }
        x.wake(0);
        is("claims(0): 1 is now at 4", x.claims(0), 7);
        is("claims(1): nothing of a void one", x.claims(1), 7);
        NumberedWaves y = coast(TWINS, "01009");
        y.ticket(0, 4);
        y.ticket(1, 1);
        y.ticket(2, 2);
        is("claims(0): half of 3, 4 is not called", y.claims(0), 4);
        is("claims(1)", y.claims(1), 4);
        is("claims(2): half of 1 and of 2", y.claims(2), 8);
        y.slip(2, 5);
        is("claims(2): half of 1, though 2 is skipped", y.claims(2), 4);
        is("claims(0)", y.claims(0), 0);
    }

    private static void good() {
        promise = 20;
        NumberedWaves x = coast(TWINS, "");
        is("good(0) of none", x.good(0), BAD);
        x.ticket(0, 1);
        x.ticket(0, 1);
        x.ticket(1, 4);
        x.ticket(2, 3);
        is("good(-1)", x.good(-1), BAD);
        is("good(4)", x.good(4), BAD);
        is("good(0)", x.good(0), 1);
        is("good(1), COUNTERFEIT", x.good(1), 0);
        is("good(2), not called", x.good(2), 0);
        is("good(3)", x.good(3), 1);
        x.wake(0);
        is("good(3), not called", x.good(3), 0);
        x.slip(1, 3);
        is("good(0), skipped", x.good(0), 0);
        is("good(2), called", x.good(2), 1);
    }

    private static void agree() {
        promise = 21;
        NumberedWaves x = coast("20400;30600;10701;10401;10498", "");
        is("agree(0, 0, 0, 0)", x.agree(0, 0, 0, 0), BAD);
        is("agree(-1, 0, 0, 0)", x.agree(-1, 0, 0, 0), BAD);
        is("agree(0, -1, 0, 0)", x.agree(0, -1, 0, 0), BAD);
        is("agree(5, 0, 0, 0)", x.agree(5, 0, 0, 0), BAD);
        is("agree(0, 5, 0, 0)", x.agree(0, 5, 0, 0), BAD);
        is("agree(0, 1, -1, 0)", x.agree(0, 1, -1, 0), BAD);
        is("agree(0, 1, 240, 0)", x.agree(0, 1, 240, 0), BAD);
        is("agree(0, 1, 0, -1)", x.agree(0, 1, 0, -1), BAD);
        is("agree(0, 1, 0, 2)", x.agree(0, 1, 0, 2), BAD);
        is("agree(0, 1, 0, 0)", x.agree(0, 1, 0, 0), 0);
        is("agree(0, 1, 0, 1)", x.agree(0, 1, 0, 1), 12);
        is("agree(1, 0, 1, 0)", x.agree(1, 0, 1, 0), 12);
        is("agree(0, 1, 12, 0)", x.agree(0, 1, 12, 0), 12);
        is("agree(0, 1, 239, 0): behind 239", x.agree(0, 1, 239, 0), 240);
        is("agree(0, 2, 0, 0)", x.agree(0, 2, 0, 0), 8);
        is("agree(0, 2, 9, 0)", x.agree(0, 2, 9, 0), 36);
        is("agree(2, 0, 9, 1)", x.agree(2, 0, 9, 1), 28);
        is("agree(0, 3, 0, 0): never", x.agree(0, 3, 0, 0), NONE);
        is("agree(0, 3, 0, 1): never", x.agree(0, 3, 0, 1), NONE);
        is("agree(1, 4, 0, 0)", x.agree(1, 4, 0, 0), 102);
        is("agree(4, 1, 0, 0)", x.agree(4, 1, 0, 0), 102);
        NumberedWaves y = coast("19900;19899", "");
        is("agree(0, 1, 0, 0)", y.agree(0, 1, 0, 0), 99);
        is("agree(0, 1, 100, 0)", y.agree(0, 1, 100, 0), 99 + 99 * 98);
        is("agree(1, 0, 100, 1)", y.agree(1, 0, 100, 1), 99 * 98);
    }

    private static void run() {
        promise = 22;
        NumberedWaves x = coast("10200", "05002;07003");
        is("run(0, 0)", x.run(0, 0), BAD);
        is("run(10, 0)", x.run(10, 0), BAD);
        is("run(1, -1)", x.run(1, -1), BAD);
        is("run(1, 2)", x.run(1, 2), BAD);
        is("run(1, 0)", x.run(1, 0), 35);
        is("run(1, 1)", x.run(1, 1), 5);
        is("run(3, 0): 5 and 7", x.run(3, 0), 5);
        is("run(3, 1)", x.run(3, 1), 5);
        is("run(2, 0): 14 and 15", x.run(2, 0), 14);
        is("run(8, 0): 14, 15, 20 and 21", x.run(8, 0), 14);
        is("run(8, 1)", x.run(8, 1), 10);
        x.slip(35, 1);
        is("run(1, 0): 35 is not called", x.run(1, 0), 70);
        NumberedWaves y = coast("19900", "04009");
        is("run(3, 0): like ones", y.run(3, 0), 1);
        is("run(3, 1)", y.run(3, 1), 0);
        is("run(4, 0): the last is 3", y.run(4, 0), NONE);
        is("run(4, 1)", y.run(4, 1), NONE);
        y.slip(3, 5);
        is("run(4, 0): up to 8", y.run(4, 0), 5);
        is("run(4, 1)", y.run(4, 1), 9);
        is("run(9, 0): the last is 8", y.run(9, 0), NONE);
        NumberedWaves z = coast(TWINS, "01009");
        is("run(1, 1) of a DOUBLE one", z.run(1, 1), 9);
    }

    private static void bar() {
        promise = 23;
        NumberedWaves x = coast(TWO, "");
        is("bar(-1)", x.bar(-1), BAD);
        is("bar(241)", x.bar(241), BAD);
        is("bar(240)", x.bar(240), 0);
        is("bar(80)", x.bar(80), 0);
        is("bar(79)", x.bar(79), 3);
        is("bar(40)", x.bar(40), 3);
        is("bar(39)", x.bar(39), 4);
        is("bar(20)", x.bar(20), 4);
        is("bar(19)", x.bar(19), 6);
        is("bar(0)", x.bar(0), 6);
        x.depth(9);
        x.wake(0);
        is("bar(79): void ones break, and DEPTH is put aside", x.bar(79), 3);
        is("depth(9)", x.depth(9), 9);
        NumberedWaves y = coast("90200;90200;90200;90200;90200;90200", "");
        is("bar(119)", y.bar(119), 55);
        is("bar(120)", y.bar(120), 0);
    }

    private static void earn() {
        promise = 24;
        NumberedWaves x = coast(TWO, "01007");
        is("earn(-1, 0)", x.earn(-1, 0), BAD);
        is("earn(8, 0)", x.earn(8, 0), BAD);
        is("earn(0, -1)", x.earn(0, -1), BAD);
        is("earn(0, 2)", x.earn(0, 2), BAD);
        is("earn(0, 0): its own and half of 1", x.earn(0, 0), 2);
        is("earn(0, 1)", x.earn(0, 1), 10);
        x.ticket(5, 2);
        is("earn(0, 0)", x.earn(0, 0), 6);
        is("earn(5, 1): all CLAIMS", x.earn(5, 1), 20);
        for (int i = 0; i < 11; i++) {
            x.ticket(6, 6);
        }
        is("earn(0, 0) behind 12", x.earn(0, 0), 10);
        is("count(5)", x.count(5), 12);
        NumberedWaves y = coast(TWINS, "03008");
        is("earn(7, 0): half of 3", y.earn(7, 0), 3);
        is("earn(7, 1)", y.earn(7, 1), 4);
        y.ticket(1, 3);
        is("earn(7, 0): half of 3, by 4", y.earn(7, 0), 4);
        y.ticket(1, 4);
        is("earn(7, 0)", y.earn(7, 0), NONE);
        is("earn(7, 1)", y.earn(7, 1), NONE);
        is("earn(1, 1)", y.earn(1, 1), NONE);
        NumberedWaves z = coast(THREES, "02001");
        z.slip(1, 1);
        is("earn(0, 0)", z.earn(0, 0), 2);
        NumberedWaves w = coast(TWINS, "01001");
        is("earn(0, 0): half of 1 is cut", w.earn(0, 0), NONE);
        NumberedWaves v = coast(THREES, "01005");
        is("earn(0, 0): of like ones the least", v.earn(0, 0), 1);
    }

    private static void heard() {
        promise = 25;
        NumberedWaves x = coast(THREES, "");
        is("heard(-1, 0)", x.heard(-1, 0), BAD);
        is("heard(240, 0)", x.heard(240, 0), BAD);
        is("heard(0, -1)", x.heard(0, -1), BAD);
        is("heard(0, 401)", x.heard(0, 401), BAD);
        is("heard(239, 400)", x.heard(239, 400), 1);
        for (int many = 2; many <= 8; many++) {
            is("heard(0, 0)", x.heard(0, 0), many);
        }
        is("heard(0, 0) of too many", x.heard(0, 0), FULL);
        is("heard(0, 401) of too many", x.heard(0, 401), BAD);
        is("count(7)", x.count(7), 8);
    }

    private static void forget() {
        promise = 26;
        NumberedWaves x = coast(THREES, "");
        is("forget() of none", x.forget(), 0);
        x.heard(0, 400);
        x.heard(1, 400);
        is("skipped(1)", x.skipped(1), 0);
        is("forget()", x.forget(), 2);
        is("count(7)", x.count(7), 0);
        is("skipped(1)", x.skipped(1), Integer.MAX_VALUE);
        is("forget() of none", x.forget(), 0);
    }

    private static void skipped() {
        promise = 27;
        NumberedWaves x = coast(THREES, "");
        is("skipped(0)", x.skipped(0), BAD);
        is("skipped(12)", x.skipped(12), BAD);
        is("skipped(11) by nothing", x.skipped(11), Integer.MAX_VALUE);
        x.heard(9, 5);
        is("skipped(1): of 1 to 4", x.skipped(1), 15);
        is("skipped(2)", x.skipped(2), 0);
        x.heard(3, 2);
        is("skipped(1): of 3 or 4", x.skipped(1), 12);
        x.heard(4, 0);
        is("skipped(1): none at 4", x.skipped(1), 12);
        x.slip(3, 1);
        is("skipped(1) behind one told: of those behind the 4th", x.skipped(1), Integer.MAX_VALUE - 15);
        x.forget();
        x.heard(90, 32 + 11);
        is("skipped(11): up to 31", x.skipped(11), Integer.MAX_VALUE);
        x.heard(87, 31);
        is("skipped(11): 31 alone", x.skipped(11), 1 << 30);
        is("count(6): nothing was told", x.count(6), 81);
        x.heard(90, 1);
        is("skipped(11): unlike ones", x.skipped(11), 0);
    }

    private static void voids() {
        promise = 28;
        NumberedWaves x = coast(THREES, "");
        is("voids(-2)", x.voids(-2), BAD);
        is("voids(240)", x.voids(240), BAD);
        is("voids(-1) by nothing", x.voids(-1), 240);
        is("voids(239) by nothing", x.voids(239), 239);
        x.heard(9, 3);
        is("voids(-1)", x.voids(-1), 3);
        is("voids(0)", x.voids(0), 0);
        is("voids(1)", x.voids(1), 3);
        is("voids(2)", x.voids(2), 6);
        is("voids(3)", x.voids(3), NONE);
        is("voids(239)", x.voids(239), NONE);
        x.heard(3, 2);
        is("voids(-1)", x.voids(-1), 1);
        is("voids(0)", x.voids(0), 6);
        x.heard(6, 0);
        is("voids(0)", x.voids(0), 6);
        x.slip(3, 1);
        is("voids(-1): 9 is now the third, and skips", x.voids(-1), 0);
        x.back(0);
        x.wake(6);
        is("voids(-1): all but 0, 3 and 9", x.voids(-1), 237);
        is("voids(0)", x.voids(0), 1);
        is("voids(2)", x.voids(2), 4);
    }

    private static void often() {
        promise = 29;
        NumberedWaves x = coast(THREES, "");
        is("often(1, 0)", x.often(1, 0), BAD);
        is("often(-1, 0)", x.often(-1, 0), BAD);
        is("often(0, -2)", x.often(0, -2), BAD);
        is("often(0, 98)", x.often(0, 98), BAD);
        is("often(0, -1) by nothing", x.often(0, -1), 98);
        is("often(0, 0)", x.often(0, 0), 2);
        is("often(0, 97)", x.often(0, 97), 99);
        x.heard(10, 3);
        is("often(0, -1)", x.often(0, -1), 1);
        is("often(0, 0)", x.often(0, 0), 5);
        is("often(0, 1)", x.often(0, 1), NONE);
        is("swell(0, 1): its own is left", x.swell(0, 1), 3);
        x.forget();
        x.heard(10, 0);
        is("often(0, -1): not 2, 5, 10", x.often(0, -1), 95);
        is("often(0, 0)", x.often(0, 0), 3);
        x.heard(10, 2);
        is("often(0, -1): unlike ones", x.often(0, -1), 0);
        is("often(0, 0)", x.often(0, 0), NONE);
        NumberedWaves y = coast("20400;30600", "");
        y.depth(4);
        y.heard(12, 2);
        is("often(1, -1): 0 and 12 DOUBLE, not 4 or 8", y.often(1, -1), 3);
        is("often(1, 0)", y.often(1, 0), 3);
        is("often(1, 1)", y.often(1, 1), 6);
        is("often(1, 2)", y.often(1, 2), 12);
        y.forget();
        y.heard(8, 2);
        is("often(1, -1): 0 and 8 DOUBLE, not 4", y.often(1, -1), 1);
        is("often(1, 0)", y.often(1, 0), 8);
        y.wake(4);
        is("often(1, -1): 4 is void", y.often(1, -1), 3);
        is("often(1, 0)", y.often(1, 0), 2);
        y.slip(2, 3);
        is("often(1, -1): 8 is 5", y.often(1, -1), 0);
    }

    private static void hoarseIs(NumberedWaves x, int c, int number, long above, long below) {
        is("hoarse(" + c + ", " + number + ", 0)", x.hoarse(c, number, 0), above);
        is("hoarse(" + c + ", " + number + ", 1)", x.hoarse(c, number, 1), below);
    }

    private static void hoarse() {
        promise = 30;
        NumberedWaves x = coast(THREES, "");
        is("hoarse(-1, 1, 0)", x.hoarse(-1, 1, 0), BAD_LONG);
        is("hoarse(17, 1, 0)", x.hoarse(17, 1, 0), BAD_LONG);
        is("hoarse(0, 0, 0)", x.hoarse(0, 0, 0), BAD_LONG);
        is("hoarse(0, 13, 0)", x.hoarse(0, 13, 0), BAD_LONG);
        is("hoarse(0, 1, -1)", x.hoarse(0, 1, -1), BAD_LONG);
        is("hoarse(0, 1, 2)", x.hoarse(0, 1, 2), BAD_LONG);
        hoarseIs(x, 8, 1, 1, 2);
        hoarseIs(x, 8, 2, 3, 4);
        hoarseIs(x, 8, 3, 5, 8);
        hoarseIs(x, 0, 12, 1, 1);
        hoarseIs(x, 16, 11, 0, 1);
        hoarseIs(x, 16, 12, 1, 1);
        hoarseIs(x, 1, 1, 15, 16);
        hoarseIs(x, 1, 2, 241, 256);
        x.slip(1, 11);
        hoarseIs(x, 8, 1, 1, 2);
        NumberedWaves y = coast("19999", "");
        hoarseIs(y, 8, 3, 1, 2);
        hoarseIs(y, 8, 4, 1, 4);
        hoarseIs(y, 16, 4, 1, 1);
        hoarseIs(y, 8, 5, 0, 1);
        y.wake(198);
        hoarseIs(y, 8, 2, 1, 2);
        hoarseIs(y, 8, 3, 0, 1);
        hoarseIs(new NumberedWaves(), 0, 1, 0, 1);
    }

    private static void storm() {
        promise = 31;
        // The first LOTS of all TIMES by SEED 0 are 0, 236, 36, 165; NUMBERS there 1, 159, 25, 0.
        NumberedWaves x = coast("10200;10301", "01002;02003");
        is("storm(0, 0, 0)", x.storm(0, 0, 0), BAD);
        is("storm(0, 100, 0)", x.storm(0, 100, 0), BAD);
        is("storm(0, 1, -1)", x.storm(0, 1, -1), BAD);
        is("storm(0, 1, 2)", x.storm(0, 1, 2), BAD);
        is("storm(0, 1, 0)", x.storm(0, 1, 0), 2);
        is("storm(0, 1, 1)", x.storm(0, 1, 1), 1);
        is("storm(0, 4, 0)", x.storm(0, 4, 0), 6);
        is("storm(0, 4, 1)", x.storm(0, 4, 1), 3);
        x.slip(2, 1);
        is("storm(0, 4, 0): 1, 160, 26, 0", x.storm(0, 4, 0), 12);
        is("storm(12345, 3, 1): a later SEED", x.storm(12345, 3, 1), 2);
        is("storm(-2147483648, 99, 1)", x.storm(Integer.MIN_VALUE, 99, 1) > 0 ? 1 : 0, 1);
        x.wake(0);
        is("storm(0, 1, 0), void", x.storm(0, 1, 0), 0);
        is("storm(0, 1, 1), void", x.storm(0, 1, 1), 0);
        NumberedWaves y = coast("10200;10201", "01001");
        is("storm(5, 99, 1): all are called", y.storm(5, 99, 1), 99);
        is("storm(5, 99, 0): each as often as it comes", y.storm(5, 99, 0), 99);
        y.wipe(0);
        Due.typeAll(y, 0, "10200;10201;10200;10201");
        is("storm(5, 99, 0) of DOUBLE ones", y.storm(5, 99, 0), 99);
    }

    private static void sheet() {
        promise = 32;
        NumberedWaves x = new NumberedWaves();
        is("sheet(-1, 0, 0)", x.sheet(-1, 0, 0), BAD);
        is("sheet(4, 0, 0)", x.sheet(4, 0, 0), BAD);
        is("sheet(0, -1, 0)", x.sheet(0, -1, 0), BAD);
        is("sheet(0, 3, 0)", x.sheet(0, 3, 0), BAD);
        is("sheet(0, 0, 49)", x.sheet(0, 0, 49), BAD);
        is("sheet(0, 3, -1)", x.sheet(0, 3, -1), BAD);
        is("count(8)", x.count(8), 0);
        is("sheet(0, 0, -1)", x.sheet(0, 0, -1), SIZE);
        is("count(8)", x.count(8), 5);
        is("lose(0)", x.lose(0), NULL);
        for (int form = 0; form < 3; form++) {
            is("sheet(3, form, 48)", x.sheet(3, form, 48), 48);
            is("put(3, form, 47, 9)", x.put(3, form, 47, 9), 1);
            is("sheet(3, form, 48), anew", x.sheet(3, form, 48), 48);
            is("get(3, form, 47)", x.get(3, form, 47), 0);
        }
        x.put(3, 2, 0, 7);
        is("sheet(3, 0, -5)", x.sheet(3, 0, -5), SIZE);
        is("get(3, 2, 0): it is left", x.get(3, 2, 0), 7);
        is("sheet(3, 1, 0)", x.sheet(3, 1, 0), 0);
        is("lose(3)", x.lose(3), 0);
    }

    private static void lose() {
        promise = 33;
        NumberedWaves x = new NumberedWaves();
        x.sheet(2, 1, 17);
        is("lose(-1)", x.lose(-1), BAD);
        is("lose(4)", x.lose(4), BAD);
        is("lose(1)", x.lose(1), NULL);
        is("lose(2)", x.lose(2), 17);
        is("lose(2) again", x.lose(2), NULL);
        is("put(2, 1, 0, 0)", x.put(2, 1, 0, 0), NULL);
        is("count(8)", x.count(8), 1);
    }

    private static void put() {
        promise = 34;
        NumberedWaves x = new NumberedWaves();
        is("put(0, 0, 0, 0)", x.put(0, 0, 0, 0), NULL);
        x.sheet(0, 0, 3);
        x.sheet(1, 1, 3);
        x.sheet(2, 2, 3);
        is("put(-1, 0, 0, 0)", x.put(-1, 0, 0, 0), BAD);
        is("put(4, 0, 0, 0)", x.put(4, 0, 0, 0), BAD);
        is("put(0, -1, 0, 0)", x.put(0, -1, 0, 0), BAD);
        is("put(0, 3, 0, 0)", x.put(0, 3, 0, 0), BAD);
        is("put(3, 3, 0, 0): BAD is ahead of NULL", x.put(3, 3, 0, 0), BAD);
        is("put(0, 1, 9, 0): CAST is ahead of INDEX", x.put(0, 1, 9, 0), CAST);
        is("count(8)", x.count(8), 3);
        is("put(0, 0, 3, 0)", x.put(0, 0, 3, 0), INDEX);
        is("put(0, 0, -1, 0)", x.put(0, 0, -1, 0), INDEX);
        is("count(8)", x.count(8), 2);
        int v = 0x12348081;
        for (int s = 0; s < 3; s++) {
            is("put(s, s, 2, v)", x.put(s, s, 2, v), 1);
        }
        is("get(0, 0, 2)", x.get(0, 0, 2), (byte) v);
        is("get(1, 1, 2)", x.get(1, 1, 2), (short) v);
        is("get(2, 2, 2)", x.get(2, 2, 2), v);
        is("get(0, 0, 1)", x.get(0, 0, 1), 0);
        x.put(0, 0, 0, 127);
        is("get(0, 0, 0)", x.get(0, 0, 0), 127);
        x.put(0, 0, 0, 255);
        is("get(0, 0, 0)", x.get(0, 0, 0), -1);
    }

    private static void get() {
        promise = 35;
        NumberedWaves x = new NumberedWaves();
        is("get(4, 0, 0)", x.get(4, 0, 0), LEAST);
        is("get(-1, 0, 0)", x.get(-1, 0, 0), LEAST);
        is("get(0, 3, 0)", x.get(0, 3, 0), LEAST);
        is("get(0, -1, 0)", x.get(0, -1, 0), LEAST);
        is("count(8): BAD is no FINDING", x.count(8), 0);
        is("get(0, 0, 0)", x.get(0, 0, 0), LEAST);
        is("count(8)", x.count(8), 1);
        x.sheet(0, 2, 2);
        x.put(0, 2, 1, -5);
        is("get(0, 2, 1)", x.get(0, 2, 1), -5);
        is("get(0, 1, 5)", x.get(0, 1, 5), LEAST);
        is("count(8)", x.count(8), 3);
        is("get(0, 2, 2)", x.get(0, 2, 2), LEAST);
        is("count(8)", x.count(8), 2);
        is("get(0, 2, -1)", x.get(0, 2, -1), LEAST);
        is("get(0, 2, 0)", x.get(0, 2, 0), 0);
        is("count(8): a good call leaves it", x.count(8), 2);
    }

    private static void itemsAre(NumberedWaves x, int s, int form, int... items) {
        for (int i = 0; i < items.length; i++) {
            is("get(" + s + ", " + form + ", " + i + ")", x.get(s, form, i), items[i]);
        }
    }

    private static void copy() {
        promise = 36;
        NumberedWaves x = new NumberedWaves();
        putAll(x, 0, 1, 1, 2, 3, 4, 5);
        putAll(x, 1, 1, 9, 9, 9);
        putAll(x, 2, 2, 8);
        is("copy(-1, 0, 0, 0, 0)", x.copy(-1, 0, 0, 0, 0), BAD);
        is("copy(4, 0, 0, 0, 0)", x.copy(4, 0, 0, 0, 0), BAD);
        is("copy(0, 0, -1, 0, 0)", x.copy(0, 0, -1, 0, 0), BAD);
        is("copy(3, 0, 4, 0, 0)", x.copy(3, 0, 4, 0, 0), BAD);
        is("copy(3, 0, 0, 0, 0)", x.copy(3, 0, 0, 0, 0), NULL);
        is("copy(0, 0, 3, 0, -1)", x.copy(0, 0, 3, 0, -1), NULL);
        is("copy(0, 9, 2, 9, 9): STORE is ahead of INDEX", x.copy(0, 9, 2, 9, 9), STORE);
        is("count(8)", x.count(8), 4);
        int[][] beyond = {{-1, 0, 1}, {0, -1, 1}, {0, 0, -1}, {5, 0, 1}, {0, 3, 1}, {3, 0, 3}, {0, 1, 3}, {6, 0, 0},
            {0, 4, 0}, {Integer.MAX_VALUE, 0, 1}, {1, 0, Integer.MAX_VALUE}, {0, Integer.MAX_VALUE, 2},
            {Integer.MIN_VALUE, 0, 0}, {0, 0, Integer.MIN_VALUE}};
        for (int[] b : beyond) {
            is("copy(0, " + b[0] + ", 1, " + b[1] + ", " + b[2] + ")", x.copy(0, b[0], 1, b[1], b[2]), INDEX);
        }
        is("count(8)", x.count(8), 2);
        itemsAre(x, 1, 1, 9, 9, 9);
        is("copy(0, 5, 1, 3, 0)", x.copy(0, 5, 1, 3, 0), 1);
        is("copy(0, 3, 1, 1, 2)", x.copy(0, 3, 1, 1, 2), 1);
        itemsAre(x, 1, 1, 9, 4, 5);
        is("copy(0, 0, 0, 1, 4): as they were", x.copy(0, 0, 0, 1, 4), 1);
        itemsAre(x, 0, 1, 1, 1, 2, 3, 4);
        is("copy(0, 1, 0, 0, 4): as they were", x.copy(0, 1, 0, 0, 4), 1);
        itemsAre(x, 0, 1, 1, 2, 3, 4, 4);
    }

    private static void write() {
        promise = 37;
        NumberedWaves x = coast(THREES, "");
        is("write(0, 0)", x.write(0, 0), NULL);
        x.sheet(0, 2, 5);
        is("write(-1, 0)", x.write(-1, 0), BAD);
        is("write(240, 0)", x.write(240, 0), BAD);
        is("write(0, -1)", x.write(0, -1), BAD);
        is("write(0, 4)", x.write(0, 4), BAD);
        is("write(240, 1): BAD is ahead of NULL", x.write(240, 1), BAD);
        is("write(6, 0)", x.write(6, 0), 5);
        itemsAre(x, 0, 2, 3, 0, 0, 4, 0);
        is("write(237, 0)", x.write(237, 0), 3);
        itemsAre(x, 0, 2, 80, 0, 0, 4, 0);
        is("write(239, 0)", x.write(239, 0), 1);
        x.sheet(1, 0, 48);
        for (int i = 0; i < 6; i++) {
            x.slip(1, 11);
        }
        is("write(231, 1)", x.write(231, 1), 9);
        itemsAre(x, 1, 0, (byte) 144, 0, 0, (byte) 145, 0, 0, (byte) 146, 0, 0, 0);
        x.sheet(2, 1, 1);
        is("write(231, 2)", x.write(231, 2), 1);
        itemsAre(x, 2, 1, 144);
        x.sheet(3, 1, 0);
        is("write(0, 3)", x.write(0, 3), 0);
    }

    private static void count() {
        promise = 38;
        NumberedWaves x = coast(TWO, "01007;02013;99998");
        x.ticket(0, 1);
        x.ticket(0, 1);
        x.heard(0, 1);
        x.wake(12);
        x.slip(1, 4);
        x.sheet(0, 0, -1);
        int[] want = {2, 3, 11, 17, 80, 2, 83, 1, 5};
        for (int what = 0; what < 9; what++) {
            is("count(" + what + ")", x.count(what), want[what]);
        }
        is("count(-1)", x.count(-1), BAD);
        is("count(9)", x.count(9), BAD);
        x.type(0, ';');
        x.type(1, 'x');
        int[] faulty = {0, 0, 12, 18, 0, 2, 0, 1, 5};
        for (int what = 0; what < 9; what++) {
            is("count(" + what + ") with FAULTS", x.count(what), faulty[what]);
        }
    }

    private static long fold(long start, long... each) {
        long h = start;
        for (long v : each) {
            h = 31 * h + v;
        }
        return h;
    }

    /** The digest by the document's words, of the object's own other answers. */
    private static long digestOf(NumberedWaves x) {
        long h = 17;
        for (int what = 0; what <= 7; what++) {
            h = fold(h, x.count(what));
        }
        h = fold(h, x.fault(0), x.fault(1));
        for (int it = 0; it < x.count(0); it++) {
            h = fold(h, x.swell(it, 0), x.swell(it, 1), x.swell(it, 2), x.agree(0, it, 5, 0), x.agree(0, it, 5, 1));
            h = fold(h, x.often(it, -1), x.often(it, 0));
        }
        for (int it = 0; it < x.count(1); it++) {
            h = fold(h, x.find(it, 0), x.find(it, 1), x.find(it, 2));
        }
        for (int it : new int[] {0, 1, 60, 239}) {
            h = fold(h, x.high(it), x.wave(it, 0), x.wave(it, 1), x.wave(it, 2), x.called(0, it));
        }
        for (int it : new int[] {1, 7, 40}) {
            h = fold(h, x.when(it), x.brings(it));
        }
        for (int it = 0; it < 8; it++) {
            h = fold(h, x.claims(it), x.earn(it, 0), x.earn(it, 1));
        }
        for (int it = 0; it < x.count(5); it++) {
            h = fold(h, x.good(it));
        }
        h = fold(h, x.run(3, 0), x.run(3, 1), x.bar(9), x.skipped(1), x.voids(-1), x.voids(0));
        return fold(h, x.hoarse(5, 4, 0), x.hoarse(5, 4, 1), x.storm(7, 30, 0), x.storm(7, 30, 1));
    }

    private static void digest() {
        promise = 39;
        NumberedWaves x = new NumberedWaves();
        is("digest() of a new one", x.digest(), digestOf(x));
        is("count(8): it finds nothing", x.count(8), 0);
        NumberedWaves y = coast("20400;30600;90103;10299;50507;62013", "01007;02013;99998;05034");
        y.wipe(0);
        Due.typeAll(y, 0, "20400;30600;90703;10299;50507;62013");
        y.ticket(0, 1);
        y.ticket(3, 7);
        y.ticket(4, 7);
        y.slip(2, 3);
        y.wake(60);
        y.heard(12, 10);
        y.heard(1, 0);
        long told = y.digest();
        is("digest()", told, digestOf(y));
        is("digest() again", y.digest(), told);
        y.sheet(0, 0, -1);
        is("digest() behind a FINDING", y.digest(), told);
        y.depth(4);
        is("digest() by another DEPTH", y.digest(), digestOf(y));
        DUE.isTrue("another DEPTH, another digest", y.digest() != told);
    }
}
