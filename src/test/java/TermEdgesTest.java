/**
 * The document's sentences on TERMS that name an edge, each with a test of its own; the sentence stands
 * ahead of its test. Answers are worked out by hand. The texts' own sentences are in TextsTest.
 */
public final class TermEdgesTest {
    private static final int NONE = -1, BAD = -2, FULL = -4;
    /** A CREST at each TIME, none DOUBLE: 240 WAVES, NUMBER t + 1. */
    private static final String ALL = "10200;10201";
    /** A CREST of two SWELLS at each TIME. */
    private static final String ALL_DOUBLE = "10200;10201;10200;10201";
    private static final String HIGHEST = "90200;90200;90200;90200;90200;90200";
    /** CRESTS at 0, 99 and 198. */
    private static final String SELDOM = "19900";

    private static final Due DUE = new Due();
    private static String sentence = "";

    private TermEdgesTest() {
    }

    public static void main(String[] args) {
        crests();
        highs();
        breaks();
        wakes();
        turns();
        slips();
        brings();
        tickets();
        counterfeits();
        halves();
        nextNumbers();
        fractions();
        lots();
        sheets();
        DUE.end();
    }

    private static void of(String words) {
        sentence = words;
    }

    private static void is(String call, long got, long want) {
        DUE.is("'" + sentence + "': " + call, got, want);
    }

    private static NumberedWaves coast(String swells, String finds) {
        return Due.coast(swells, finds);
    }

    private static void crestsAre(String swells, int many, int... times) {
        NumberedWaves x = coast(swells, "");
        is("count(4) of " + swells, x.count(4), many);
        for (int i = 0; i < times.length; i++) {
            int time = times[i];
            is("high(" + time + ") of " + swells, x.high(time), 1);
            is("when(" + (i + 1) + ") of " + swells, x.when(i + 1), time);
            if (time > 0) {
                is("high(" + (time - 1) + ") of " + swells, x.high(time - 1), 0);
            }
            if (time < 239) {
                is("high(" + (time + 1) + ") of " + swells, x.high(time + 1), 0);
            }
        }
    }

    private static void crests() {
        of("A SWELL has a CREST at the TIME from which on it comes, and each PERIOD later");
        crestsAre("10200", 120, 0, 2, 4, 6);
        crestsAre("10299", 71, 99, 101, 103);
        crestsAre("19900", 3, 0, 99, 198);
        crestsAre("19941", 3, 41, 140, 239);
        crestsAre("19942", 2, 42, 141);
        crestsAre("19999", 2, 99, 198);
        crestsAre("17099", 3, 99, 169, 239);
        crestsAre("17199", 2, 99, 170);
        of("TIMES are 0 to 239");
        is("high(0)", coast(ALL, "").high(0), 1);
        is("high(239)", coast(ALL, "").high(239), 1);
        is("count(4)", coast(ALL, "").count(4), 240);
        is("count(6)", coast(ALL, "").count(6), 240);
    }

    private static void highs() {
        of("HIGH at a TIME: HEIGHTS of all SWELLS that have a CREST then");
        is("high(0) of none", new NumberedWaves().high(0), 0);
        is("high(238) of six of 9", coast(HIGHEST, "").high(238), 54);
        is("high(239) of none of six", coast(HIGHEST, "").high(239), 0);
        NumberedWaves x = coast("10200;20200;30300;40400;50500;60600", "");
        is("high(0) of all", x.high(0), 21);
        is("high(60) of all", x.high(60), 21);
        is("high(12) of all but one", x.high(12), 16);
        is("high(5) of one", x.high(5), 5);
        is("high(7) of none", x.high(7), 0);
        of("HEIGHT (1 to 9)");
        is("high(0) of 1", coast("10200", "").high(0), 1);
        is("high(0) of 9", coast("90200", "").high(0), 9);
    }

    private static void breaksFrom(String swells, int time, int high) {
        NumberedWaves x = coast(swells, "");
        for (int deep = 0; deep <= 55; deep++) {
            is("depth(" + deep + ")", x.depth(deep), Math.max(deep - 1, 0));
            int due = high >= 1 && high >= deep ? 1 : 0;
            is("wave(" + time + ", 0) of HIGH " + high + " by " + deep, x.wave(time, 0), due);
            is("wave(" + time + ", 1) of HIGH " + high + " by " + deep, x.wave(time, 1) > 0 ? 1 : 0, due);
        }
    }

    private static void breaks() {
        of("A WAVE BREAKS at a TIME if HIGH is 1 or more, and DEPTH (0 to 55; 0 at first) or more");
        is("depth(0) at first", new NumberedWaves().depth(0), 0);
        is("wave(0, 0) of no SWELLS, DEPTH 0", new NumberedWaves().wave(0, 0), 0);
        breaksFrom("10200", 0, 1);
        breaksFrom("10200", 1, 0);
        breaksFrom("90200", 238, 9);
        breaksFrom("20400;30600", 12, 5);
        breaksFrom(HIGHEST, 0, 54);
        breaksFrom("", 239, 0);
    }

    private static void wakes() {
        of("WAKES (TIMES, 8 at most): a WAVE then is void: it has no NUMBER");
        NumberedWaves x = coast(ALL, "");
        is("wake(0)", x.wake(0), 1);
        is("wake(239)", x.wake(239), 2);
        is("wave(0, 0)", x.wave(0, 0), 1);
        is("wave(0, 1)", x.wave(0, 1), 0);
        is("wave(1, 1)", x.wave(1, 1), 1);
        is("wave(238, 1)", x.wave(238, 1), 238);
        is("wave(239, 0)", x.wave(239, 0), 1);
        is("wave(239, 1)", x.wave(239, 1), 0);
        is("count(4): void ones BREAK", x.count(4), 240);
        is("count(6)", x.count(6), 238);
        for (int many = 3; many <= 8; many++) {
            is("wake(" + 10 * many + ")", x.wake(10 * many), many);
        }
        is("wake(1), the 9th", x.wake(1), FULL);
        is("wave(1, 1)", x.wave(1, 1), 1);
        is("count(6)", x.count(6), 232);
        is("back(1)", x.back(1), 7);
        is("wave(80, 1), no more void", x.wave(80, 1), 75);
        is("wake(1), the 8th", x.wake(1), 8);
        is("wave(1, 1)", x.wave(1, 1), 0);
        NumberedWaves y = coast(SELDOM, "01009");
        for (int time = 0; time < 240; time += 99) {
            y.wake(time);
        }
        is("count(4) where all are void", y.count(4), 3);
        is("count(6)", y.count(6), 0);
        is("called(0, 239)", y.called(0, 239), 0);
        is("when(1)", y.when(1), NONE);
        is("run(1, 0)", y.run(1, 0), NONE);
        is("earn(0, 0)", y.earn(0, 0), NONE);
        is("hoarse(0, 1, 0)", y.hoarse(0, 1, 0), 0);
        is("storm(0, 99, 1)", y.storm(0, 99, 1), 0);
        is("wake(0), void twice", y.wake(0), 4);
        is("back(1)", y.back(1), 3);
        is("wave(0, 1): void still", y.wave(0, 1), 0);
        NumberedWaves z = coast(ALL, "");
        z.wake(239);
        z.wake(0);
        is("wave(239, 1), both void", z.wave(239, 1), 0);
        z.back(1);
        is("wave(0, 1), no more void", z.wave(0, 1), 1);
        is("wave(239, 1), void still", z.wave(239, 1), 0);
        z.back(1);
        is("wave(239, 1), no more void", z.wave(239, 1), 240);
    }

    private static void turns() {
        of("Other WAVES that BREAK are called in turn: the first one has NUMBER 1, each other one the next");
        NumberedWaves x = coast("19999", "");
        is("wave(99, 1), the first", x.wave(99, 1), 1);
        is("wave(198, 1), the last", x.wave(198, 1), 2);
        x.wake(99);
        is("wave(198, 1), the first that is not void", x.wave(198, 1), 1);
        NumberedWaves y = coast("20400;30600", "");
        y.depth(3);
        is("wave(4, 1), which does not BREAK", y.wave(4, 1), 0);
        is("wave(6, 1)", y.wave(6, 1), 2);
        y.depth(5);
        is("wave(12, 1)", y.wave(12, 1), 2);
        y.depth(6);
        is("count(6) where none BREAKS", y.count(6), 0);
        is("when(1)", y.when(1), NONE);
    }

    private static void slips() {
        of("of the k-th that is called (1 to 240) so many NUMBERS (1 to 11) ahead of its own are skipped");
        NumberedWaves x = coast(ALL, "");
        x.slip(1, 1);
        is("wave(0, 1) by slip(1, 1)", x.wave(0, 1), 2);
        is("when(1)", x.when(1), NONE);
        is("count(6)", x.count(6), 241);
        x.slip(1, 11);
        is("wave(0, 1) by 11 more", x.wave(0, 1), 13);
        is("when(12)", x.when(12), NONE);
        is("when(13)", x.when(13), 0);
        x.slip(240, 11);
        is("wave(238, 1)", x.wave(238, 1), 251);
        is("wave(239, 1) by slip(240, 11)", x.wave(239, 1), 263);
        is("when(252)", x.when(252), NONE);
        is("when(262)", x.when(262), NONE);
        is("when(263)", x.when(263), 239);
        x.wake(0);
        is("count(6): of 239 there is no 240th", x.count(6), 251);
        is("wave(1, 1), now the 1st", x.wave(1, 1), 13);
        of("SLIPS, 12 at most (0 on)");
        NumberedWaves y = coast(ALL, "");
        for (int many = 1; many <= 12; many++) {
            is("slip(1, 11)", y.slip(1, 11), many);
            is("wave(0, 1)", y.wave(0, 1), 1 + 11 * many);
        }
        is("slip(1, 11), the 13th", y.slip(1, 11), FULL);
        is("wave(0, 1)", y.wave(0, 1), 133);
        is("wave(239, 1), the greatest NUMBER", y.wave(239, 1), 372);
        is("when(372)", y.when(372), 239);
        is("when(373)", y.when(373), NONE);
        is("when(132)", y.when(132), NONE);
        is("back(0)", y.back(0), 11);
        is("wave(239, 1)", y.wave(239, 1), 361);
        NumberedWaves z = coast(SELDOM, "");
        z.slip(4, 5);
        is("count(6): there is no 4th", z.count(6), 3);
        z.slip(3, 2);
        z.slip(2, 4);
        is("wave(99, 1), told in any order", z.wave(99, 1), 6);
        is("wave(198, 1)", z.wave(198, 1), 9);
    }

    private static void brings() {
        of("VALUES of all FINDS for which that NUMBER modulo MODULUS is REST");
        bringsAre("01007", 7, 1, 2, 399, 400);
        bringsAre("01017", 0, 1, 2, 399, 400);
        bringsAre("99009", 9, 99, 198, 297, 396);
        bringsAre("99009", 0, 1, 98, 100, 395, 397, 400);
        bringsAre("99989", 9, 98, 197, 296, 395);
        bringsAre("99989", 0, 97, 99, 196);
        bringsAre("99999", 0, 99, 198, 1, 400);
        bringsAre("99049", 9, 4, 103, 400);
        bringsAre("50500", 0, 50, 100);
        bringsAre("50505", 0, 50, 100, 1);
        bringsAre("02000", 0, 2, 400);
        bringsAre("01009;01009;01009;01009;01009;01009;01009;01009", 72, 1, 400);
        bringsAre("02011;02012;03004", 3, 1, 5, 7);
        bringsAre("02011;02012;03004", 7, 3, 9, 399);
        bringsAre("02011;02012;03004", 4, 6, 12);
        bringsAre("", 0, 1, 400);
    }

    private static void bringsAre(String finds, int want, int... numbers) {
        NumberedWaves x = coast("", finds);
        for (int number : numbers) {
            is("brings(" + number + ") of " + finds, x.brings(number), want);
        }
    }

    private static void tickets() {
        of("TICKETS, 12 at most (0 on): a HOLDER (0 to 7) and a NUMBER (1 to 400)");
        NumberedWaves x = coast(ALL, "01003");
        is("good(0) of none", x.good(0), BAD);
        for (int many = 1; many <= 12; many++) {
            is("ticket(" + many % 8 + ", " + many + ")", x.ticket(many % 8, many), many);
            is("good(" + (many - 1) + ")", x.good(many - 1), 1);
            is("good(" + many + ")", x.good(many), BAD);
        }
        is("ticket(0, 13), the 13th", x.ticket(0, 13), FULL);
        is("claims(0) by 8", x.claims(0), 3);
        is("claims(1) by 1 and 9", x.claims(1), 6);
        is("claims(7) by 7", x.claims(7), 3);
        is("back(2)", x.back(2), 11);
        is("good(11)", x.good(11), BAD);
        is("ticket(0, 13), the 12th", x.ticket(0, 13), 12);
        is("claims(0)", x.claims(0), 6);
        NumberedWaves y = coast(ALL, "01003");
        is("ticket(0, 1)", y.ticket(0, 1), 1);
        is("ticket(7, 240)", y.ticket(7, 240), 2);
        is("ticket(0, 400)", y.ticket(0, 400), 3);
        is("ticket(7, 241)", y.ticket(7, 241), 4);
        int[] goods = {1, 1, 0, 0};
        for (int i = 0; i < goods.length; i++) {
            is("good(" + i + ")", y.good(i), goods[i]);
        }
        is("claims(0)", y.claims(0), 3);
        is("claims(7)", y.claims(7), 3);
    }

    private static void counterfeits() {
        of("of a NUMBER the first told one is good, others are COUNTERFEIT");
        NumberedWaves x = coast(ALL, "01003");
        x.ticket(2, 5);
        x.ticket(3, 5);
        x.ticket(2, 5);
        int[] goods = {1, 0, 0};
        for (int i = 0; i < goods.length; i++) {
            is("good(" + i + ")", x.good(i), goods[i]);
        }
        is("claims(2): once", x.claims(2), 3);
        is("claims(3)", x.claims(3), 0);
        x.back(2);
        x.back(2);
        is("good(0), others undone", x.good(0), 1);
        x.back(2);
        x.ticket(3, 5);
        is("good(0), told anew by another", x.good(0), 1);
        is("claims(3)", x.claims(3), 3);
        is("claims(2)", x.claims(2), 0);
        NumberedWaves y = coast(ALL_DOUBLE, "01008");
        y.ticket(0, 2);
        y.ticket(1, 2);
        is("claims(0): halves of 1 and 2", y.claims(0), 8);
        is("claims(1): a COUNTERFEIT one has no half either", y.claims(1), 0);
    }

    private static void halves() {
        of("of a DOUBLE one that one has half of it (cut), and the HOLDER of the next NUMBER as much");
        for (int value = 0; value <= 9; value++) {
            NumberedWaves x = coast("19900;19900", "0301" + value);
            x.ticket(0, 1);
            x.ticket(1, 2);
            is("claims(0) of " + value, x.claims(0), value / 2);
            is("claims(1) of " + value, x.claims(1), value / 2);
            x.back(2);
            x.ticket(0, 2);
            is("claims(0) of both halves of " + value, x.claims(0), value / 2 * 2);
        }
        NumberedWaves most = coast("19900;19900", "01009;01009;01009;01009;01009;01009;01009;01009");
        most.ticket(0, 1);
        is("claims(0) of 72", most.claims(0), 36);
        NumberedWaves odd = coast("19900;19900", "03011;03012;03014;03014");
        odd.ticket(0, 1);
        is("claims(0) of 11: all VALUES ahead of the half", odd.claims(0), 5);
        of("DOUBLE (two SWELLS or more have a CREST then)");
        NumberedWaves three = coast("19900;19900;19900", "03018");
        three.ticket(0, 1);
        is("wave(0, 2) of three", three.wave(0, 2), 1);
        is("claims(0) of three: half", three.claims(0), 4);
        NumberedWaves one = coast("19900;19901", "03018");
        one.ticket(0, 1);
        one.ticket(1, 2);
        is("wave(0, 2) of one", one.wave(0, 2), 0);
        is("claims(0) of one: all", one.claims(0), 8);
        is("claims(1)", one.claims(1), 0);
        NumberedWaves six = coast(HIGHEST, "");
        is("wave(238, 2) of six", six.wave(238, 2), 1);
        is("wave(239, 2) of none", six.wave(239, 2), 0);
    }

    private static void nextNumbers() {
        of("the HOLDER of the next NUMBER as much");
        NumberedWaves x = coast(ALL_DOUBLE, "01009");
        for (int i = 0; i < 12; i++) {
            x.slip(240, 11);
        }
        int[] numbers = {1, 2, 239, 240, 241, 372, 373, 374};
        int[] claims = {4, 8, 8, 4, 0, 4, 4, 0};
        for (int holder = 0; holder < 8; holder++) {
            x.ticket(holder, numbers[holder]);
        }
        for (int holder = 0; holder < 8; holder++) {
            is("claims(" + holder + ") by " + numbers[holder], x.claims(holder), claims[holder]);
        }
        int[] goods = {1, 1, 1, 0, 0, 1, 0, 0};
        for (int i = 0; i < 8; i++) {
            is("good(" + i + ") of " + numbers[i], x.good(i), goods[i]);
        }
    }

    private static void hoarseIs(NumberedWaves x, int c, int number, long above, long below) {
        is("hoarse(" + c + ", " + number + ", 0)", x.hoarse(c, number, 0), above);
        is("hoarse(" + c + ", " + number + ", 1)", x.hoarse(c, number, 1), below);
    }

    private static void fractions() {
        of("FRACTIONS are told in lowest terms, above and below (0 by 1)");
        NumberedWaves none = new NumberedWaves();
        for (int c = 0; c <= 16; c += 8) {
            hoarseIs(none, c, 1, 0, 1);
            hoarseIs(none, c, 12, 0, 1);
        }
        NumberedWaves one = coast("19999", "");
        one.wake(198);
        long[] above = {1, 15, 7, 13, 3, 11, 5, 9, 1, 7, 3, 5, 1, 3, 1, 1, 0};
        long[] below = {1, 16, 8, 16, 4, 16, 8, 16, 2, 16, 8, 16, 4, 16, 8, 16, 1};
        for (int c = 0; c <= 16; c++) {
            hoarseIs(one, c, 1, above[c], below[c]);
            hoarseIs(one, c, 2, above[16 - c], below[16 - c]);
            hoarseIs(one, c, 3, 0, 1);
        }
        NumberedWaves all = coast(ALL, "");
        hoarseIs(all, 1, 12, 264917625139441L, 281474976710656L);
        hoarseIs(all, 15, 12, 208057893410641L, 281474976710656L);
        hoarseIs(all, 5, 12, 214457183241601L, 281474976710656L);
        hoarseIs(all, 8, 12, 2731, 4096);
        hoarseIs(all, 2, 11, 7635497415L, 8589934592L);
        hoarseIs(all, 0, 12, 1, 1);
        hoarseIs(all, 16, 12, 1, 1);
        hoarseIs(all, 16, 11, 0, 1);
        of("the chance that a NUMBER (1 to 12) is called by the last of these WAVES");
        calledBy(11, 7, 12, 12220653905005L, 17592186044416L);
        calledBy(12, 7, 12, 195812892016561L, 281474976710656L);
        calledBy(7, 7, 12, 30471091, 268435456);
        calledBy(6, 7, 12, 117649, 16777216);
        calledBy(5, 7, 12, 0, 1);
        calledBy(6, 16, 12, 1, 1);
        calledBy(5, 16, 12, 0, 1);
        hoarseIs(coast("19999", ""), 7, 3, 63, 128);
    }

    /** So many WAVES that are called: CRESTS each 20 TIMES, 12 of them, the rest void. */
    private static void calledBy(int waves, int c, int number, long above, long below) {
        NumberedWaves x = coast("12000", "");
        for (int i = 0; i < 12 - waves; i++) {
            x.wake(20 * i);
        }
        is("called(0, 239)", x.called(0, 239), waves);
        hoarseIs(x, c, number, above, below);
        x.slip(1, 11);
        hoarseIs(x, c, number, above, below);
    }

    private static void lots() {
        of("LOTS of m: SEED becomes 1103515245 SEED and 12345, as ints that wrap; its upper 16 bits from 0 on");
        int[] seeds = {0, -1, Integer.MAX_VALUE, Integer.MIN_VALUE};
        int[][] lots = {{0, 236, 36, 165, 138, 15}, {217, 89, 22, 206, 73, 34}, {89, 217, 150, 78, 201, 146},
            {128, 108, 148, 37, 26, 127}};
        int[] thirds = {38, 28, 32, 31};
        int[] sevenths = {72, 90, 99, 90};
        for (int i = 0; i < seeds.length; i++) {
            int sum = 0;
            for (int n = 1; n <= 6; n++) {
                // NUMBERS at these are TIMES and 1; BRINGS 1 where it is odd and 2 more by 5.
                int number = lots[i][n - 1] + 1;
                sum += number % 2 + (number % 5 == 0 ? 2 : 0);
                is("storm(" + seeds[i] + ", " + n + ", 0)", coast(ALL, "02011;05002").storm(seeds[i], n, 0), sum);
                is("storm(" + seeds[i] + ", " + n + ", 1)", coast(ALL, "").storm(seeds[i], n, 1), n);
            }
            is("storm(" + seeds[i] + ", 99, 1)", coast("10300", "").storm(seeds[i], 99, 1), thirds[i]);
            is("storm(" + seeds[i] + ", 99, 0)", coast(ALL, "07039").storm(seeds[i], 99, 0), sevenths[i]);
        }
        NumberedWaves late = coast("15999", "03007");
        is("storm(-1, 1, 0): TIME 217, NUMBER 3", late.storm(-1, 1, 0), 7);
        late.wake(217);
        is("storm(-1, 1, 1), void", late.storm(-1, 1, 1), 0);
    }

    private static void sheets() {
        of("SHEETS 0 .. 3 are LOST (at first) or a row of a FORM, of 0 to 48 items (0 at first)");
        NumberedWaves x = new NumberedWaves();
        for (int s = 0; s < 4; s++) {
            is("lose(" + s + ") at first", x.lose(s), -11);
        }
        for (int s = 0; s < 4; s++) {
            int form = s % 3;
            is("sheet(" + s + ", " + form + ", 48)", x.sheet(s, form, 48), 48);
            for (int i = 0; i < 48; i++) {
                is("get(" + s + ", " + form + ", " + i + ") at first", x.get(s, form, i), 0);
            }
            is("get(" + s + ", " + form + ", 48)", x.get(s, form, 48), Integer.MIN_VALUE);
            is("put(" + s + ", " + form + ", 47, 3)", x.put(s, form, 47, 3), 1);
            is("put(" + s + ", " + form + ", 0, 4)", x.put(s, form, 0, 4), 1);
        }
        for (int s = 0; s < 4; s++) {
            is("sheet(" + s + ", 2, 0)", x.sheet(s, 2, 0), 0);
            is("put of item 0 of none", x.put(s, 2, 0, 1), -12);
            is("sheet(" + s + ", 2, 48)", x.sheet(s, 2, 48), 48);
            is("get(" + s + ", 2, 47), anew", x.get(s, 2, 47), 0);
            is("get(" + s + ", 2, 0), anew", x.get(s, 2, 0), 0);
            is("lose(" + s + ")", x.lose(s), 48);
        }
        of("FINDINGS (answers -10 less the number)");
        NumberedWaves y = new NumberedWaves();
        is("count(8) before any", y.count(8), 0);
        is("SIZE", y.sheet(0, 0, -1), -15);
        is("count(8)", y.count(8), 5);
        is("NULL", y.lose(0), -11);
        is("count(8)", y.count(8), 1);
        y.sheet(0, 0, 1);
        y.sheet(1, 1, 1);
        is("STORE", y.copy(0, 0, 1, 0, 1), -14);
        is("count(8)", y.count(8), 4);
        is("CAST", y.put(0, 1, 0, 0), -13);
        is("count(8)", y.count(8), 3);
        is("INDEX", y.put(0, 0, 1, 0), -12);
        is("count(8)", y.count(8), 2);
    }
}
