import java.math.BigInteger;
import java.util.ArrayList;
import java.util.List;

/**
 * The edges of what each promise answers, by the sentence that names them: empty and full, first and last,
 * NONE and the least that is not NONE, numbers that wrap. Answers are worked out by hand. What is BAD, and
 * that refusals change nothing, is in RefusalsTest; the edges of TERMS are in TermEdgesTest.
 */
public final class PromiseEdgesTest {
    private static final int NONE = -1, BAD = -2, NOT = -3, FULL = -4, NULL = -11, INDEX = -12;
    private static final int LEAST = Integer.MIN_VALUE, MOST = Integer.MAX_VALUE;
    /** A CREST at each TIME, none DOUBLE: 240 WAVES, NUMBER t + 1. */
    private static final String ALL = "10200;10201";
    private static final String ALL_DOUBLE = "10200;10201;10200;10201";
    /** CRESTS at 0, 99 and 198. */
    private static final String SELDOM = "19900";
    private static final String HIGHEST = "90200;90200;90200;90200;90200;90200";

    private static final Due DUE = new Due();
    private static String sentence = "";

    private PromiseEdgesTest() {
    }

    public static void main(String[] args) {
        newObject();
        bytesOfTexts();
        undone();
        depths();
        ticketsFromSheets();
        ticketsThatMayNotBe();
        whens();
        calledOnes();
        goods();
        agreements();
        agreementsBehindAll();
        runs();
        runsOfSkippedOnes();
        bars();
        earnings();
        greatestEarning();
        heardOnes();
        skippedOnes();
        voidOnes();
        oftenOnes();
        oftenByDepthAndWakes();
        rows();
        lowestBits();
        copies();
        written();
        writtenBits();
        counts();
        digests();
        digestsByItsNumbers();
        DUE.end();
    }

    private static void of(String words) {
        sentence = words;
    }

    private static void is(String call, long got, long want) {
        DUE.is("'" + sentence + "': " + call, got, want);
    }

    private static NumberedWaves coast(String swells, String finds) {
        return Due.coast(swells, finds);
    }

    private static void newObject() {
        of("No SWELLS, no FINDS; all SHEETS are LOST");
        NumberedWaves x = new NumberedWaves();
        is("fault(0)", x.fault(0), NONE);
        is("fault(1)", x.fault(1), NONE);
        is("wipe(0)", x.wipe(0), 0);
        is("wipe(1)", x.wipe(1), 0);
        is("forget()", x.forget(), 0);
        is("good(0)", x.good(0), BAD);
        is("agree(0, 1, 0, 0)", x.agree(0, 1, 0, 0), BAD);
        is("often(0, -1)", x.often(0, NONE), BAD);
        for (int time = 0; time < 240; time += 239) {
            is("high(" + time + ")", x.high(time), 0);
            for (int what = 0; what < 3; what++) {
                is("wave(" + time + ", " + what + ")", x.wave(time, what), 0);
            }
        }
        is("when(1)", x.when(1), NONE);
        is("called(0, 239)", x.called(0, 239), 0);
        is("brings(1)", x.brings(1), 0);
        is("claims(0)", x.claims(0), 0);
        is("run(1, 0)", x.run(1, 0), NONE);
        is("bar(0)", x.bar(0), 0);
        is("earn(0, 0)", x.earn(0, 0), NONE);
        is("skipped(1)", x.skipped(1), MOST);
        is("voids(-1)", x.voids(NONE), 240);
        is("voids(0)", x.voids(0), 0);
        is("storm(0, 99, 0)", x.storm(0, 99, 0), 0);
        for (int s = 0; s < 4; s++) {
            is("read(" + s + ")", x.read(s), NULL);
        }
    }

    private static void bytesOfTexts() {
        of("A byte (0 to 255) comes behind a text: how many");
        int[] limits = {35, 47};
        for (int text = 0; text < 2; text++) {
            NumberedWaves x = new NumberedWaves();
            is("type of byte 0", x.type(text, 0), 1);
            is("type of byte 255", x.type(text, 255), 2);
            for (int many = 3; many <= limits[text]; many++) {
                is("type(" + text + ", 59)", x.type(text, ';'), many);
            }
            is("one behind the last", x.type(text, ';'), FULL);
            is("type of the other text", x.type(1 - text, '1'), 1);
            of("The last byte of a text is undone: how many are left");
            is("undo(" + text + ") of a full one", x.undo(text), limits[text] - 1);
            is("type(" + text + ", 48) again", x.type(text, '0'), limits[text]);
            is("type(" + text + ", 48) of a full one", x.type(text, '0'), FULL);
            of("A text is empty: how many bytes it had");
            is("wipe(" + text + ") of a full one", x.wipe(text), limits[text]);
            is("wipe(" + text + ") of an empty one", x.wipe(text), 0);
            is("fault(" + text + ")", x.fault(text), NONE);
            is("undo(" + text + ") of an empty one", x.undo(text), NOT);
            is("type(" + text + ", 49)", x.type(text, '1'), 1);
            is("undo(" + text + ") of one", x.undo(text), 0);
            is("undo(" + text + ") of none", x.undo(text), NOT);
            of("A byte (0 to 255) comes behind a text: how many");
            is("count of the other text", x.count(3 - text), 1);
        }
    }

    private static void undone() {
        of("The last SLIP (what = 0), WAKE (1), TICKET (2) is undone: how many are left; NOT: there is none");
        int[] limits = {12, 8, 12};
        for (int what = 0; what < 3; what++) {
            NumberedWaves x = coast(ALL, "01005");
            is("back(" + what + ") of none", x.back(what), NOT);
            for (int i = 1; i <= limits[what]; i++) {
                is("the " + i + "th", tell(x, what, i), i);
            }
            is("one too many", tell(x, what, 20), FULL);
            for (int left = limits[what] - 1; left >= 0; left--) {
                is("back(" + what + ")", x.back(what), left);
            }
            is("back(" + what + ") of none again", x.back(what), NOT);
            is("count(6)", x.count(6), 240);
            is("wave(239, 1)", x.wave(239, 1), 240);
            is("claims(0)", x.claims(0), 0);
            is("told anew", tell(x, what, 3), 1);
            for (int other = 0; other < 3; other++) {
                is("back(" + other + ")", x.back(other), other == what ? 0 : NOT);
            }
        }
    }

    private static int tell(NumberedWaves x, int what, int i) {
        return what == 0 ? x.slip(i, 1) : what == 1 ? x.wake(i) : x.ticket(0, i);
    }

    private static void depths() {
        of("DEPTH: what it was");
        NumberedWaves x = new NumberedWaves();
        is("depth(55) at first", x.depth(55), 0);
        is("depth(55) again", x.depth(55), 55);
        is("depth(56)", x.depth(56), BAD);
        is("depth(-1)", x.depth(-1), BAD);
        is("depth(0)", x.depth(0), 55);
        is("depth(1)", x.depth(1), 0);
        is("depth(0)", x.depth(0), 1);
    }

    /** A SHEET of so many items, by twos HOLDER i % 8 and NUMBER i + 1. */
    private static void fill(NumberedWaves x, int s, int form, int items) {
        x.sheet(s, form, items);
        for (int i = 0; i < items; i++) {
            x.put(s, form, i, i % 2 == 0 ? i / 2 % 8 : i / 2 + 1);
        }
    }

    private static void ticketsFromSheets() {
        of("TICKETS from a SHEET: its items, two for each, as many as are whole");
        int[] items = {0, 1, 2, 3, 4, 23, 24, 25, 26, 48};
        int[] taken = {0, 0, 1, 1, 2, 11, 12, 12, 12, 12};
        for (int form = 0; form < 3; form++) {
            for (int i = 0; i < items.length; i++) {
                NumberedWaves x = coast(ALL, "01001");
                fill(x, 1, form, items[i]);
                is("read(1) of " + items[i] + " items", x.read(1), taken[i]);
                is("count(5)", x.count(5), taken[i]);
                is("good() of the last", taken[i] == 0 ? 1 : x.good(taken[i] - 1), 1);
                is("claims(0)", x.claims(0), taken[i] > 8 ? 2 : taken[i] > 0 ? 1 : 0);
                is("lose(1): the SHEET is left", x.lose(1), items[i]);
            }
        }
        of("TICKETS from a SHEET: .. as long as each may be: how many");
        NumberedWaves x = coast(ALL, "01001");
        for (int i = 0; i < 11; i++) {
            x.ticket(7, 100 + i);
        }
        fill(x, 0, 2, 4);
        is("read(0) behind 11", x.read(0), 1);
        is("count(5)", x.count(5), 12);
        is("claims(0)", x.claims(0), 1);
        is("claims(1)", x.claims(1), 0);
        is("claims(7): those that were told are left", x.claims(7), 11);
        is("read(0) behind 12", x.read(0), 0);
        is("back(2)", x.back(2), 11);
        is("claims(0), undone", x.claims(0), 0);
        is("get(0, 2, 3): its items are left", x.get(0, 2, 3), 2);
    }

    private static void ticketsThatMayNotBe() {
        of("TICKETS from a SHEET: .. as long as each may be");
        int[][] beyond = {{-1, 1}, {8, 1}, {0, 0}, {0, -1}, {LEAST, 1}, {MOST, 1}, {0, LEAST}, {0, MOST}, {0, 401},
            {256, 1}, {0, 65537}};
        for (int[] b : beyond) {
            NumberedWaves x = coast(ALL, "01001");
            fill(x, 3, 2, 6);
            x.put(3, 2, 2, b[0]);
            x.put(3, 2, 3, b[1]);
            is("read(3) up to " + b[0] + ", " + b[1], x.read(3), 1);
            is("count(5)", x.count(5), 1);
            x.put(3, 2, 0, b[0]);
            x.put(3, 2, 1, b[1]);
            is("read(3) where the first may not be", x.read(3), 0);
            is("count(5)", x.count(5), 1);
            is("count(8): no FINDING", x.count(8), 0);
        }
        NumberedWaves y = coast(ALL, "01001");
        y.sheet(0, 2, 8);
        int[] edges = {0, 1, 7, 400, 7, 1, 0, 400};
        for (int i = 0; i < 8; i++) {
            y.put(0, 2, i, edges[i]);
        }
        is("read(0) of the least and the greatest", y.read(0), 4);
        is("claims(0)", y.claims(0), 1);
        is("claims(7): COUNTERFEIT ones may be", y.claims(7), 0);
        is("good(2)", y.good(2), 0);
        NumberedWaves z = new NumberedWaves();
        z.sheet(0, 0, 4);
        z.put(0, 0, 1, 127);
        z.put(0, 0, 3, 128);
        is("read(0) of bytes: 128 is -128 there", z.read(0), 1);
        z.sheet(0, 1, 4);
        z.put(0, 1, 1, 400);
        z.put(0, 1, 3, 65537);
        is("read(0) of shorts: 65537 is 1 there", z.read(0), 2);
    }

    private static void whens() {
        of("WHEN a NUMBER is called: the TIME; NONE");
        NumberedWaves x = coast(ALL, "");
        is("when(1)", x.when(1), 0);
        is("when(240)", x.when(240), 239);
        is("when(241)", x.when(241), NONE);
        is("when(400)", x.when(400), NONE);
        x.depth(2);
        is("when(1), too deep", x.when(1), NONE);
        of("its NUMBER (0: none is called)");
        is("wave(0, 1), too deep", x.wave(0, 1), 0);
        is("wave(239, 1), too deep", x.wave(239, 1), 0);
    }

    private static void calledOnes() {
        of("CALLED, both TIMES, too");
        NumberedWaves x = coast(SELDOM, "");
        is("called(0, 0)", x.called(0, 0), 1);
        is("called(1, 98)", x.called(1, 98), 0);
        is("called(0, 99)", x.called(0, 99), 2);
        is("called(99, 198)", x.called(99, 198), 2);
        is("called(100, 197)", x.called(100, 197), 0);
        is("called(198, 198)", x.called(198, 198), 1);
        is("called(239, 239)", x.called(239, 239), 0);
        is("called(99, 98)", x.called(99, 98), 0);
        is("called(239, 0)", x.called(239, 0), 0);
        is("called(0, 239)", x.called(0, 239), 3);
        is("called(239, 239) of all", coast(ALL, "").called(239, 239), 1);
        is("called(0, 239) of all", coast(ALL, "").called(0, 239), 240);
        x.wake(99);
        is("called(99, 99), void", x.called(99, 99), 0);
        is("called(0, 239), one void", x.called(0, 239), 2);
    }

    private static void goods() {
        of("GOOD of a TICKET: whether it is not COUNTERFEIT, and its NUMBER is called");
        NumberedWaves x = coast(SELDOM, "");
        x.ticket(0, 1);
        x.ticket(0, 3);
        x.ticket(0, 4);
        x.ticket(1, 4);
        x.ticket(2, 3);
        int[] ordinary = {1, 1, 0, 0, 0};
        int[] skipped = {1, 0, 1, 0, 0};
        for (int i = 0; i < 5; i++) {
            is("good(" + i + ")", x.good(i), ordinary[i]);
        }
        x.slip(3, 1);
        for (int i = 0; i < 5; i++) {
            is("good(" + i + "), 3 skipped", x.good(i), skipped[i]);
        }
        x.wipe(0);
        is("good(0) of no SWELLS", x.good(0), 0);
        is("good(4) of no SWELLS", x.good(4), 0);
        is("good(5): no such", x.good(5), BAD);
    }

    private static void agreeIs(String swells, int from, int time, int again) {
        NumberedWaves x = coast(swells, "");
        String call = swells + " from " + from;
        is("agree(0, 1), the TIME: " + call, x.agree(0, 1, from, 0), time);
        is("agree(0, 1), after how many: " + call, x.agree(0, 1, from, 1), again);
        is("agree(1, 0), the TIME: " + call, x.agree(1, 0, from, 0), time);
        is("agree(1, 0), after how many: " + call, x.agree(1, 0, from, 1), again);
    }

    private static void agreements() {
        of("the first TIME from one on in which both have a CREST; after how many TIMES then again; NONE");
        agreeIs("10200;10200", 0, 0, 2);
        agreeIs("10200;10200", 239, 240, 2);
        agreeIs("10200;10201", 0, NONE, NONE);
        agreeIs("10200;10201", 239, NONE, NONE);
        agreeIs("10299;10200", 0, NONE, NONE);
        agreeIs("10298;10200", 0, 98, 2);
        agreeIs("10298;10200", 98, 98, 2);
        agreeIs("10298;10200", 99, 100, 2);
        agreeIs("10200;10300", 0, 0, 6);
        agreeIs("10200;10300", 1, 6, 6);
        agreeIs("10200;10300", 6, 6, 6);
        agreeIs("10201;10300", 0, 3, 6);
        agreeIs("10400;10602", 0, 8, 12);
        agreeIs("10400;10601", 0, NONE, NONE);
        agreeIs("10600;10903", 0, 12, 18);
        agreeIs("10600;10902", 0, NONE, NONE);
        agreeIs("19900;19900", 1, 99, 99);
        agreeIs("19900;19999", 0, 99, 99);
        agreeIs("19900;19998", 0, NONE, NONE);
        agreeIs("10299;10399", 0, 99, 6);
        agreeIs("10299;10399", 100, 105, 6);
    }

    private static void agreementsBehindAll() {
        of("(perhaps behind TIME 239)");
        agreeIs("19900;19800", 0, 0, 9702);
        agreeIs("19900;19800", 1, 9702, 9702);
        agreeIs("19999;19899", 99, 99, 9702);
        agreeIs("19999;19899", 100, 9801, 9702);
        agreeIs("19999;19899", 239, 9801, 9702);
        // 49 times 97 is 48 times 99 and 1 more.
        agreeIs("19700;19901", 0, 4753, 9603);
        // 99 t is t more than 98 t, so that t of 98 is the TIME from which on the other one comes.
        agreeIs("19900;19801", 0, 99, 9702);
        agreeIs("19900;19801", 100, 9801, 9702);
        agreeIs("19900;19802", 0, 198, 9702);
        agreeIs("19900;19899", 0, 99, 9702);
        // The latest ones: just a PERIOD of the first ahead of its 0 again.
        agreeIs("19900;19897", 0, 9603, 9702);
        agreeIs("19800;19901", 0, 9604, 9702);
    }

    private static void runIs(NumberedWaves x, int n, int first, int much) {
        is("run(" + n + ", 0)", x.run(n, 0), first);
        is("run(" + n + ", 1)", x.run(n, 1), much);
    }

    private static void runs() {
        of("NONE: the last NUMBER is less than so many");
        NumberedWaves x = coast(SELDOM, "01002");
        runIs(x, 1, 1, 2);
        runIs(x, 2, 1, 4);
        runIs(x, 3, 1, 6);
        runIs(x, 4, NONE, NONE);
        runIs(x, 9, NONE, NONE);
        x.slip(3, 5);
        runIs(x, 8, 1, 6);
        runIs(x, 9, NONE, NONE);
        x.slip(3, 1);
        runIs(x, 9, 1, 6);
        x.wipe(0);
        runIs(x, 1, NONE, NONE);
        of("RUN of so many NUMBERS (1 to 9): by which what they BRING together is most, of like ones the first");
        NumberedWaves y = coast(ALL, "99419;99409;99000");
        runIs(y, 1, 40, 9);
        runIs(y, 2, 40, 18);
        runIs(y, 9, 33, 18);
        y.slip(40, 1);
        runIs(y, 1, 41, 9);
        runIs(y, 2, 139, 18);
        NumberedWaves z = coast(ALL, "01000");
        runIs(z, 1, 1, 0);
        runIs(z, 9, 1, 0);
        z.wipe(1);
        runIs(z, 9, 1, 0);
        NumberedWaves most = coast(ALL, "01009;01009;01009;01009;01009;01009;01009;01009");
        runIs(most, 9, 1, 648);
        NumberedWaves doubles = coast(ALL_DOUBLE, "01009");
        runIs(doubles, 9, 1, 81);
    }

    private static void runsOfSkippedOnes() {
        of("up to the last that is called: .. (of those that are called)");
        NumberedWaves x = coast(SELDOM, "01003");
        x.slip(1, 4);
        runIs(x, 1, 5, 3);
        runIs(x, 3, 5, 9);
        runIs(x, 4, 4, 9);
        runIs(x, 7, 1, 9);
        runIs(x, 8, NONE, NONE);
        // The greatest NUMBER is 372, by the 240th; ahead of it 132 are skipped.
        NumberedWaves y = coast(ALL, "99759");
        for (int i = 0; i < 12; i++) {
            y.slip(240, 11);
        }
        runIs(y, 1, 75, 9);
        y.wipe(1);
        Due.typeAll(y, 1, "93009;62000");
        runIs(y, 1, 93, 9);
        y.wipe(1);
        Due.typeAll(y, 1, "31008;93001;53019");
        // 372 is 12 times 31 and 4 times 93 and 7 times 53 and 1: 18; others bring 9 at most.
        runIs(y, 1, 372, 18);
        runIs(y, 9, 364, 18);
    }

    private static void bars() {
        of("BAR for so many (0 to 240): the least DEPTH (0 to 55) by which no more WAVES BREAK");
        NumberedWaves none = new NumberedWaves();
        is("bar(0) of none", none.bar(0), 0);
        is("bar(240) of none", none.bar(240), 0);
        NumberedWaves all = coast(ALL, "");
        is("bar(240) of 240", all.bar(240), 0);
        is("bar(239) of 240", all.bar(239), 2);
        is("bar(0) of 240", all.bar(0), 2);
        NumberedWaves highest = coast(HIGHEST, "");
        is("bar(120) of 120", highest.bar(120), 0);
        is("bar(119) of 120", highest.bar(119), 55);
        is("bar(0) of 120", highest.bar(0), 55);
        NumberedWaves steps = coast("10200;90299", "");
        // Evens are 1 high, odd ones from 99 on 9: 120 and 71.
        is("bar(191)", steps.bar(191), 0);
        is("bar(190)", steps.bar(190), 2);
        is("bar(71)", steps.bar(71), 2);
        is("bar(70)", steps.bar(70), 10);
        is("bar(0)", steps.bar(0), 10);
        steps.depth(55);
        is("bar(191) by any DEPTH", steps.bar(191), 0);
        is("bar(70) by any DEPTH", steps.bar(70), 10);
        is("depth(0): it is left", steps.depth(0), 55);
    }

    private static void earnIs(NumberedWaves x, int holder, int number, int much) {
        is("earn(" + holder + ", 0)", x.earn(holder, 0), number);
        is("earn(" + holder + ", 1)", x.earn(holder, 1), much);
    }

    private static void earnings() {
        of("by which CLAIMS of that one are most, of like ones the least: the NUMBER; how much; NONE");
        NumberedWaves x = coast(SELDOM, "01005");
        earnIs(x, 0, 1, 5);
        earnIs(x, 7, 1, 5);
        x.ticket(0, 1);
        earnIs(x, 0, 2, 10);
        earnIs(x, 7, 2, 5);
        x.ticket(0, 2);
        x.ticket(7, 2);
        earnIs(x, 0, 3, 15);
        earnIs(x, 7, 3, 5);
        x.ticket(1, 3);
        earnIs(x, 0, NONE, NONE);
        earnIs(x, 1, NONE, NONE);
        earnIs(x, 2, NONE, NONE);
        x.back(2);
        earnIs(x, 1, 3, 5);
        x.wipe(1);
        earnIs(x, 1, NONE, NONE);
        earnIs(coast(SELDOM, "01001"), 0, 1, 1);
        earnIs(coast("19900;19900", "01001"), 0, NONE, NONE);
        earnIs(coast("", "01005"), 0, NONE, NONE);
        earnIs(coast(SELDOM, "01000"), 0, NONE, NONE);
        of("one TICKET more, told behind all others");
        NumberedWaves y = coast(ALL, "01005");
        for (int i = 1; i <= 12; i++) {
            y.ticket(i % 2, i);
        }
        earnIs(y, 0, 13, 35);
        earnIs(y, 2, 13, 5);
        is("count(5): none is told", y.count(5), 12);
        is("claims(0)", y.claims(0), 30);
    }

    private static void greatestEarning() {
        of("EARN of a HOLDER: the NUMBER (1 to 400) of one TICKET more");
        NumberedWaves x = coast(ALL_DOUBLE, "99759");
        for (int i = 0; i < 12; i++) {
            x.slip(240, 11);
        }
        // NUMBERS of 75 by 99 that are called: 75, 174, 372; each brings 4 to it and to the next.
        int[] best = {75, 76, 174, 175, 372, 373};
        for (int number : best) {
            earnIs(x, 3, number, 4);
            x.ticket(0, number);
        }
        earnIs(x, 3, NONE, NONE);
        is("claims(0)", x.claims(0), 24);
    }

    private static void heardOnes() {
        of("HEARD, 8 at most: at a TIME a NUMBER (0 to 400; 0: none) was called");
        NumberedWaves x = coast(ALL, "");
        int[] times = {0, 239, 0, 239, 5, 5, 6, 7};
        int[] numbers = {0, 400, 400, 0, 6, 6, 7, 8};
        for (int i = 0; i < 8; i++) {
            is("heard(" + times[i] + ", " + numbers[i] + ")", x.heard(times[i], numbers[i]), i + 1);
        }
        is("heard(8, 9), the 9th", x.heard(8, 9), FULL);
        is("count(7)", x.count(7), 8);
        of("All HEARD are forgotten: how many");
        is("forget() of 8", x.forget(), 8);
        is("forget() of none", x.forget(), 0);
        is("heard(8, 9), the first", x.heard(8, 9), 1);
        is("forget() of 1", x.forget(), 1);
        is("wave(8, 1): what was HEARD calls nothing", x.wave(8, 1), 9);
    }

    private static void skippedOnes() {
        of("where one SLIP more of so many (1 to 31) makes all that was HEARD come out so, as bits (bit 0 for 1)");
        NumberedWaves x = coast(ALL, "");
        is("skipped(1) by nothing", x.skipped(1), MOST);
        is("skipped(11) by nothing", x.skipped(11), MOST);
        x.heard(0, 2);
        is("skipped(1): the 1st alone", x.skipped(1), 1);
        is("skipped(2)", x.skipped(2), 0);
        x.forget();
        x.heard(0, 12);
        is("skipped(11): the 1st alone", x.skipped(11), 1);
        is("skipped(10)", x.skipped(10), 0);
        x.forget();
        x.heard(0, 1);
        is("skipped(1): all but the 1st", x.skipped(1), MOST - 1);
        x.forget();
        x.heard(29, 30);
        x.heard(30, 32);
        is("skipped(1): the 31st alone", x.skipped(1), 1 << 30);
        x.forget();
        x.heard(30, 31);
        is("skipped(1): none up to the 31st", x.skipped(1), 0);
        x.forget();
        x.heard(239, 241);
        is("skipped(1): all up to the 31st", x.skipped(1), MOST);
        x.heard(239, 240);
        is("skipped(1): never both", x.skipped(1), 0);
        x.forget();
        x.heard(239, 400);
        is("skipped(11): 251 at most", x.skipped(11), 0);
        of("SKIPPED by so many NUMBERS (1 to 11): .. told behind all others");
        NumberedWaves y = coast(ALL, "");
        for (int i = 0; i < 12; i++) {
            y.slip(1, 11);
        }
        y.heard(1, 145);
        is("skipped(11) behind 12: the 1st, the 2nd", y.skipped(11), 3);
        y.heard(0, 133);
        is("skipped(11) behind 12: the 2nd", y.skipped(11), 2);
        is("back(0): none was told", y.back(0), 11);
        NumberedWaves z = new NumberedWaves();
        z.heard(0, 0);
        z.heard(239, 0);
        is("skipped(1) where none is called", z.skipped(1), MOST);
        z.heard(0, 1);
        is("skipped(1) where none is called", z.skipped(1), 0);
    }

    private static void voidOnes() {
        of("TIMES in one of which one WAKE more may have been: how many; the i-th; NONE");
        NumberedWaves x = coast(ALL, "");
        is("voids(-1) by nothing", x.voids(NONE), 240);
        is("voids(0) by nothing", x.voids(0), 0);
        is("voids(239) by nothing", x.voids(239), 239);
        x.heard(0, 0);
        voidsAre(x, 0);
        x.forget();
        x.heard(239, 0);
        voidsAre(x, 239);
        x.heard(0, 1);
        voidsAre(x, 239);
        x.heard(0, 0);
        voidsAre(x);
        x.forget();
        x.heard(239, 239);
        is("voids(-1): all but the last", x.voids(NONE), 239);
        is("voids(238)", x.voids(238), 238);
        is("voids(239)", x.voids(239), NONE);
        x.heard(4, 5);
        x.heard(9, 9);
        voidsAre(x, 5, 6, 7, 8);
        x.forget();
        x.heard(3, 400);
        voidsAre(x);
        of("one WAKE more, likewise");
        NumberedWaves y = coast(ALL, "");
        for (int time = 0; time < 8; time++) {
            y.wake(time);
        }
        y.heard(0, 0);
        is("voids(-1) behind 8: a void one is void still", y.voids(NONE), 240);
        y.heard(9, 1);
        voidsAre(y, 8);
        is("back(1): none was told", y.back(1), 7);
        NumberedWaves z = coast(SELDOM, "");
        z.heard(198, 3);
        is("voids(-1): all TIMES of no WAVE, and 198 not", z.voids(NONE), 237);
        is("voids(0)", z.voids(0), 1);
        is("voids(97)", z.voids(97), 98);
        is("voids(98)", z.voids(98), 100);
        is("voids(236)", z.voids(236), 239);
        is("voids(237)", z.voids(237), NONE);
    }

    private static void voidsAre(NumberedWaves x, int... times) {
        is("voids(-1)", x.voids(NONE), times.length);
        for (int i = 0; i < times.length; i++) {
            is("voids(" + i + ")", x.voids(i), times[i]);
        }
        is("voids(" + times.length + ")", x.voids(times.length), NONE);
        is("voids(239)", x.voids(239), NONE);
    }

    private static void oftenAre(NumberedWaves x, int swell, int... periods) {
        is("often(" + swell + ", -1)", x.often(swell, NONE), periods.length);
        for (int i = 0; i < periods.length; i++) {
            is("often(" + swell + ", " + i + ")", x.often(swell, i), periods[i]);
        }
        is("often(" + swell + ", " + periods.length + ")", x.often(swell, periods.length), NONE);
        is("often(" + swell + ", 97)", x.often(swell, 97), NONE);
    }

    private static void oftenOnes() {
        of("PERIODS (2 to 99) in place of its own, likewise: how many; the i-th; NONE");
        NumberedWaves x = coast("15000", "");
        is("often(0, -1) by nothing", x.often(0, NONE), 98);
        for (int i = 0; i < 98; i++) {
            is("often(0, " + i + ") by nothing", x.often(0, i), i + 2);
        }
        x.heard(2, 2);
        oftenAre(x, 0, 2);
        x.forget();
        x.heard(99, 2);
        oftenAre(x, 0, 99);
        x.heard(98, 0);
        oftenAre(x, 0, 99);
        x.heard(98, 2);
        oftenAre(x, 0);
        x.forget();
        x.heard(0, 1);
        is("often(0, -1): any has its first", x.often(0, NONE), 98);
        x.heard(238, 3);
        oftenAre(x, 0);
        x.forget();
        x.heard(198, 3);
        oftenAre(x, 0, 99);
        x.forget();
        x.heard(238, 120);
        oftenAre(x, 0, 2);
        x.forget();
        x.heard(239, 0);
        is("often(0, -1): 239 has no PERIOD", x.often(0, NONE), 98);
        x.forget();
        x.heard(60, 0);
        // 60 has 2, 3, 4, 5, 6, 10, 12, 15, 20, 30 and 60.
        is("often(0, -1): none that 60 has", x.often(0, NONE), 87);
        is("often(0, 0)", x.often(0, 0), 7);
        is("often(0, 86)", x.often(0, 86), 99);
        is("often(0, 87)", x.often(0, 87), NONE);
        is("swell(0, 1): its own is left", x.swell(0, 1), 50);
        of("OFTEN of a SWELL");
        NumberedWaves y = coast("10200;10300;10400;10500;10600;15099", "");
        y.heard(101, 81);
        is("often(5, 98)", y.often(5, 98), BAD);
        is("often(6, -1)", y.often(6, NONE), BAD);
        // 51 of the TIMES 0 to 100 are even, 17 others have 3, 7 others 5; 99 has 3; 101 has none of these.
        oftenAre(y, 5);
        y.forget();
        y.heard(101, 76);
        oftenAre(y, 5, 2);
    }

    private static void oftenByDepthAndWakes() {
        of("OFTEN of a SWELL: .. likewise (all that was HEARD comes out so)");
        NumberedWaves x = coast("20400;30600", "");
        x.depth(5);
        x.heard(24, 2);
        // DOUBLE at 0 and 24, not at 4, 8, 12, 16, 20: PERIODS of 24 by which none of these is one.
        oftenAre(x, 1, 24);
        x.wake(12);
        oftenAre(x, 1, 3, 6, 12, 24);
        x.slip(2, 1);
        oftenAre(x, 1);
        x.heard(24, 3);
        oftenAre(x, 1);
        x.forget();
        x.heard(24, 3);
        oftenAre(x, 1, 3, 6, 12, 24);
        // As to the first SWELL: DOUBLE at 0 and 24, not at 6 and 18; 12 is void.
        oftenAre(x, 0, 4, 8, 12, 24);
    }

    private static void rows() {
        of("A SHEET is a new row of a FORM with n items: n");
        NumberedWaves x = new NumberedWaves();
        for (int form = 0; form < 3; form++) {
            for (int n = 0; n <= 48; n += 47) {
                is("sheet(0, " + form + ", " + n + ")", x.sheet(0, form, n), n);
                is("lose(0)", x.lose(0), n);
                is("lose(0) again", x.lose(0), NULL);
            }
            is("sheet(0, " + form + ", 48)", x.sheet(0, form, 48), 48);
            x.put(0, form, 47, 5);
            is("sheet(0, " + form + ", 47): a smaller one", x.sheet(0, form, 47), 47);
            is("put(0, " + form + ", 47, 5)", x.put(0, form, 47, 5), INDEX);
            is("sheet(0, " + form + ", 48): a greater one", x.sheet(0, form, 48), 48);
            is("get(0, " + form + ", 47): 0 at first", x.get(0, form, 47), 0);
        }
        of("It is LOST: how many items it had");
        x.sheet(1, 2, 3);
        x.put(1, 2, 0, 9);
        is("lose(1)", x.lose(1), 3);
        is("get(1, 2, 0)", x.get(1, 2, 0), LEAST);
        is("count(8)", x.count(8), 1);
        is("sheet(1, 2, 3), again", x.sheet(1, 2, 3), 3);
        is("get(1, 2, 0): a new row", x.get(1, 2, 0), 0);
    }

    private static void lowestBits() {
        of("Item i becomes v (the lowest bits that it has): 1");
        int[] values = {0, 1, -1, 127, 128, -128, -129, 255, 256, 32767, 32768, -32768, -32769, 65535, 65536,
            MOST, LEAST};
        int[] bytes = {0, 1, -1, 127, -128, -128, 127, -1, 0, -1, 0, 0, -1, -1, 0, -1, 0};
        int[] shorts = {0, 1, -1, 127, 128, -128, -129, 255, 256, 32767, -32768, -32768, 32767, -1, 0, -1, 0};
        int[][] rows = {bytes, shorts, values};
        NumberedWaves x = new NumberedWaves();
        for (int form = 0; form < 3; form++) {
            x.sheet(form, form, 48);
            for (int i = 0; i < values.length; i++) {
                int at = i == 0 ? 47 : i - 1;
                is("put of " + values[i] + ", FORM " + form, x.put(form, form, at, values[i]), 1);
                is("get of " + values[i] + ", FORM " + form, x.get(form, form, at), rows[form][i]);
            }
        }
        of("BAD: the least int; so are NULL, CAST, INDEX (count() 8 tells)");
        is("get(2, 2, 15): an item that is the least int", x.get(2, 2, 15), LEAST);
        is("count(8): no FINDING", x.count(8), 0);
    }

    private static void itemsAre(NumberedWaves x, int s, int form, int... items) {
        for (int i = 0; i < items.length; i++) {
            is("get(" + s + ", " + form + ", " + i + ")", x.get(s, form, i), items[i]);
        }
    }

    private static void copies() {
        of("n items of SHEET s, from i on, come to SHEET t (perhaps s, as they were), from j on: 1");
        for (int form = 0; form < 3; form++) {
            NumberedWaves x = new NumberedWaves();
            x.sheet(0, form, 48);
            x.sheet(3, form, 48);
            for (int i = 0; i < 48; i++) {
                x.put(0, form, i, i + 1);
            }
            is("copy of all 48", x.copy(0, 0, 3, 0, 48), 1);
            is("get(3, " + form + ", 0)", x.get(3, form, 0), 1);
            is("get(3, " + form + ", 47)", x.get(3, form, 47), 48);
            is("copy of all to itself", x.copy(3, 0, 3, 0, 48), 1);
            is("copy of 47, one on, as they were", x.copy(3, 0, 3, 1, 47), 1);
            is("get(3, " + form + ", 0)", x.get(3, form, 0), 1);
            is("get(3, " + form + ", 1)", x.get(3, form, 1), 1);
            is("get(3, " + form + ", 2)", x.get(3, form, 2), 2);
            is("get(3, " + form + ", 47)", x.get(3, form, 47), 47);
            is("copy of 47, one back, as they were", x.copy(3, 1, 3, 0, 47), 1);
            is("get(3, " + form + ", 0)", x.get(3, form, 0), 1);
            is("get(3, " + form + ", 46)", x.get(3, form, 46), 47);
            is("get(3, " + form + ", 47)", x.get(3, form, 47), 47);
            is("copy of the last to the first", x.copy(0, 47, 3, 0, 1), 1);
            is("get(3, " + form + ", 0)", x.get(3, form, 0), 48);
            is("copy of the first to the last", x.copy(0, 0, 3, 47, 1), 1);
            is("get(3, " + form + ", 47)", x.get(3, form, 47), 1);
            is("copy of none from the end on", x.copy(0, 48, 3, 48, 0), 1);
            is("copy of none from 0 on", x.copy(0, 0, 3, 0, 0), 1);
            is("copy of none from 49 on", x.copy(0, 49, 3, 0, 0), INDEX);
            is("copy of none to 49", x.copy(0, 0, 3, 49, 0), INDEX);
            is("get(0, " + form + ", 47): s is left", x.get(0, form, 47), 48);
        }
        NumberedWaves y = new NumberedWaves();
        y.sheet(0, 1, 0);
        y.sheet(1, 1, 2);
        is("copy of none of none", y.copy(0, 0, 1, 2, 0), 1);
        is("copy of none to none", y.copy(1, 2, 0, 0, 0), 1);
        is("copy of one of none", y.copy(0, 0, 1, 0, 1), INDEX);
        is("copy of one to none", y.copy(1, 0, 0, 0, 1), INDEX);
        y.sheet(2, 1, 3);
        is("copy of more than t has", y.copy(2, 0, 1, 0, 3), INDEX);
        is("copy of as many as t has", y.copy(2, 1, 1, 0, 2), 1);
    }

    private static void written() {
        of("from item 0 on, as many as there are items and TIMES: how many");
        int[] times = {0, 191, 192, 193, 238, 239};
        int[] many = {48, 48, 48, 47, 2, 1};
        for (int k = 0; k < times.length; k++) {
            NumberedWaves x = coast(ALL, "");
            x.sheet(2, 2, 48);
            for (int i = 0; i < 48; i++) {
                x.put(2, 2, i, -7);
            }
            is("write(" + times[k] + ", 2)", x.write(times[k], 2), many[k]);
            for (int i = 0; i < 48; i++) {
                is("get(2, 2, " + i + ")", x.get(2, 2, i), i < many[k] ? times[k] + i + 1 : -7);
            }
        }
        NumberedWaves y = coast(SELDOM, "");
        y.sheet(0, 2, 0);
        y.sheet(1, 2, 1);
        is("write(0, 0) of no items", y.write(0, 0), 0);
        is("write(0, 1) of one", y.write(0, 1), 1);
        itemsAre(y, 1, 2, 1);
        of("NUMBERS (0: none)");
        is("write(1, 1)", y.write(1, 1), 1);
        itemsAre(y, 1, 2, 0);
        y.wake(99);
        y.put(1, 2, 0, 5);
        is("write(99, 1), void", y.write(99, 1), 1);
        itemsAre(y, 1, 2, 0);
        is("write(198, 1)", y.write(198, 1), 1);
        itemsAre(y, 1, 2, 2);
    }

    private static void writtenBits() {
        of("NUMBERS come to a SHEET (the lowest bits that an item has)");
        NumberedWaves x = coast(ALL, "");
        x.sheet(0, 0, 4);
        x.sheet(1, 1, 4);
        is("write(125, 0)", x.write(125, 0), 4);
        itemsAre(x, 0, 0, 126, 127, -128, -127);
        x.slip(239, 11);
        x.slip(239, 5);
        is("write(236, 0): 237, 238, 255, 256", x.write(236, 0), 4);
        itemsAre(x, 0, 0, 237 - 256, 238 - 256, -1, 0);
        is("write(236, 1)", x.write(236, 1), 4);
        itemsAre(x, 1, 1, 237, 238, 255, 256);
    }

    private static void counts() {
        of("0 SWELLS, 1 FINDS, 2, 3 bytes of texts, 4 how many WAVES BREAK, 5 TICKETS, 6 the last NUMBER, 7 HEARD");
        NumberedWaves x = States.FILLED.make();
        int[] filled = {6, 8, 35, 47};
        for (int what = 0; what < filled.length; what++) {
            is("count(" + what + ") of a full one", x.count(what), filled[what]);
        }
        is("count(5) of a full one", x.count(5), 12);
        is("count(7) of a full one", x.count(7), 8);
        is("count(4) of all TIMES", coast(ALL, "").count(4), 240);
        is("count(6) of all TIMES", coast(ALL, "").count(6), 240);
        NumberedWaves y = coast(ALL, "");
        y.slip(240, 11);
        is("count(6) by a SLIP", y.count(6), 251);
        y.wake(239);
        is("count(6), the last void", y.count(6), 239);
        is("count(4), the last void", y.count(4), 240);
        y.depth(2);
        is("count(4), too deep", y.count(4), 0);
        is("count(6), too deep", y.count(6), 0);
        of("8 the number of the latest FINDING (0 before any)");
        y.count(9);
        y.type(2, 0);
        y.back(2);
        is("count(8): BAD and NOT are none", y.count(8), 0);
        y.read(0);
        y.sheet(0, 0, 1);
        is("count(8) of the latest", y.count(8), 1);
    }

    private static void digests() {
        of("h is 17; h becomes 31 h and each of: ..; as longs that wrap");
        is("digest() of a new one", new NumberedWaves().digest(), 3142145006806097604L);
        for (States state : States.values()) {
            is("digest() of a " + state + " one", state.make().digest(), digestOf(state.make()));
            NumberedWaves x = state.make();
            x.digest();
            DUE.is("count(8) behind digest()", x.count(8), state.latestFinding());
            DUE.isTrue("digest() changes nothing", States.allAnswers(x).equals(States.allAnswers(state.make())));
        }
        NumberedWaves one = coast("10200", "");
        one.digest();
        is("count(8): agree(0, 0, 5, 0) 'as it is told' is BAD, no FINDING", one.count(8), 0);
    }

    /** Coasts by which each number that the sentence names answers unlike the one below or above it. */
    private static void digestsByItsNumbers() {
        of("agree(0, it, 5, 0 and 1) .. bar(9), skipped(1)");
        // Both have a CREST at 4; at 5; 9 WAVES; 10.
        String[] swells = {"10404;10404", "10505;10505", "12424", "12400"};
        for (int i = 0; i < swells.length; i++) {
            NumberedWaves x = coast(swells[i], "01002");
            x.heard(24, x.wave(24, 1) == 0 ? 0 : x.wave(24, 1) + 1);
            is("digest() of " + swells[i], x.digest(), digestOf(x));
        }
        is("agree(0, 1, 4, 0)", coast(swells[0], "").agree(0, 1, 4, 0), 4);
        is("agree(0, 1, 5, 0)", coast(swells[0], "").agree(0, 1, 5, 0), 8);
        is("agree(0, 1, 5, 0)", coast(swells[1], "").agree(0, 1, 5, 0), 5);
        is("agree(0, 1, 6, 0)", coast(swells[1], "").agree(0, 1, 6, 0), 10);
        is("bar(9)", coast(swells[2], "").bar(9), 0);
        is("bar(8)", coast(swells[2], "").bar(8), 2);
        is("bar(10)", coast(swells[3], "").bar(10), 0);
        is("bar(9)", coast(swells[3], "").bar(9), 2);
    }

    private static long digestOf(NumberedWaves x) {
        BigInteger h = BigInteger.valueOf(17);
        for (long each : terms(x)) {
            h = h.multiply(BigInteger.valueOf(31)).add(BigInteger.valueOf(each));
        }
        return h.longValue();
    }

    private static List<Long> terms(NumberedWaves x) {
        List<Long> all = new ArrayList<>();
        for (int what = 0; what < 8; what++) {
            all.add((long) x.count(what));
        }
        all.add((long) x.fault(0));
        all.add((long) x.fault(1));
        for (int it = 0; it < x.count(0); it++) {
            addAll(all, x.swell(it, 0), x.swell(it, 1), x.swell(it, 2));
            addAll(all, it == 0 ? BAD : x.agree(0, it, 5, 0), it == 0 ? BAD : x.agree(0, it, 5, 1));
            addAll(all, x.often(it, NONE), x.often(it, 0));
        }
        for (int it = 0; it < x.count(1); it++) {
            addAll(all, x.find(it, 0), x.find(it, 1), x.find(it, 2));
        }
        for (int it : new int[] {0, 1, 60, 239}) {
            addAll(all, x.high(it), x.wave(it, 0), x.wave(it, 1), x.wave(it, 2), x.called(0, it));
        }
        for (int it : new int[] {1, 7, 40}) {
            addAll(all, x.when(it), x.brings(it));
        }
        for (int it = 0; it < 8; it++) {
            addAll(all, x.claims(it), x.earn(it, 0), x.earn(it, 1));
        }
        for (int it = 0; it < x.count(5); it++) {
            addAll(all, x.good(it));
        }
        addAll(all, x.run(3, 0), x.run(3, 1), x.bar(9), x.skipped(1), x.voids(NONE), x.voids(0));
        addAll(all, x.hoarse(5, 4, 0), x.hoarse(5, 4, 1), x.storm(7, 30, 0), x.storm(7, 30, 1));
        return all;
    }

    private static void addAll(List<Long> all, long... each) {
        for (long v : each) {
            all.add(v);
        }
    }
}
