import java.util.ArrayList;
import java.util.Arrays;
import java.util.List;

/**
 * "Refusals, the first that fits, in the order told at each act": each number just below and just above
 * what is taken, each refusal, those where more than one fits, and that a refusal changes nothing.
 */
public final class RefusalsTest {
    private static final int NONE = -1, BAD = -2, NOT = -3, FULL = -4;
    private static final int NULL = -11, INDEX = -12, CAST = -13, STORE = -14, SIZE = -15;
    private static final int LEAST = Integer.MIN_VALUE, MOST = Integer.MAX_VALUE;
    private static final long LEAST_LONG = Long.MIN_VALUE;
    /** Bounds of an argument that BAD does not look at. */
    private static final int[] ANY = {LEAST, MOST};
    private static final int[] SHEET = {0, 3}, FORM = {0, 2}, TIME = {0, 239}, NUMBER = {1, 400}, HOLDER = {0, 7};

    private interface Call {
        long of(NumberedWaves x);
    }

    private interface Ints {
        long of(NumberedWaves x, int[] a);
    }

    private static final Due DUE = new Due();
    private static int refusals = 0;

    private final States state;
    private final List<Long> before;
    private final int swells, finds, tickets;

    private RefusalsTest(States state) {
        this.state = state;
        this.before = States.allAnswers(state.make());
        NumberedWaves x = state.make();
        this.swells = x.count(0);
        this.finds = x.count(1);
        this.tickets = x.count(5);
        DUE.is(state + ": count(8) at first", x.count(8), state.latestFinding());
    }

    public static void main(String[] args) {
        for (States state : States.values()) {
            RefusalsTest test = new RefusalsTest(state);
            test.badOfTexts();
            test.badOfWaves();
            test.badOfPlans();
            test.badOfSheets();
            test.aboveAndBelowZeroOfNothing();
        }
        new RefusalsTest(States.NEW).ofNothing();
        new RefusalsTest(States.ORDINARY).ofFindings();
        new RefusalsTest(States.FILLED).ofFullOnes();
        new RefusalsTest(States.FAULTY).ofFaultyTexts();
        new RefusalsTest(States.FAULTY).ofLostSheets();
        DUE.isTrue("more than 1000 refusals were looked at: " + refusals, refusals > 1000);
        DUE.end();
    }

    /** A call that is refused; what was asked ahead of it is answered likewise behind it. */
    private void refused(String call, long answer, Call c) {
        refused(call, answer, answer < -10 && answer > -16 ? (int) (-10 - answer) : state.latestFinding(), c);
    }

    private void refused(String call, long answer, int latest, Call c) {
        refusals++;
        NumberedWaves x = state.make();
        DUE.is(state + ": " + call, c.of(x), answer);
        DUE.is(state + ": count(8) behind " + call, x.count(8), latest);
        List<Long> behind = States.allAnswers(x);
        DUE.isTrue(state + ": " + call + " changed " + unlike(behind), behind.equals(before));
    }

    private String unlike(List<Long> behind) {
        List<Integer> places = new ArrayList<>();
        for (int i = 0; i < Math.max(before.size(), behind.size()); i++) {
            if (i >= before.size() || i >= behind.size() || !before.get(i).equals(behind.get(i))) {
                places.add(i);
            }
        }
        return "answers " + places;
    }

    /** BAD just beyond each bound and far beyond it, whatever the others are; not at the bounds. */
    private void bad(String act, Ints call, int[]... bounds) {
        bad(act, BAD, call, bounds);
    }

    private void bad(String act, long answer, Ints call, int[]... bounds) {
        boolean takesAny = true;
        int[] least = new int[bounds.length];
        for (int i = 0; i < bounds.length; i++) {
            least[i] = Math.max(bounds[i][0], NONE);
            takesAny = takesAny && bounds[i][0] <= bounds[i][1];
        }
        int[] beyond = least.clone();
        for (int i = 0; i < bounds.length; i++) {
            if (takesAny) {
                takenAt(act, answer, call, least, i, bounds[i]);
            }
            refusedBeyond(act, answer, call, least, i, bounds[i]);
            refusedBeyond(act, answer, call, beyond, i, bounds[i]);
            beyond[i] = bounds[i] == ANY ? least[i] : bounds[i][1] + 1;
        }
    }

    private void takenAt(String act, long answer, Ints call, int[] others, int place, int[] bound) {
        for (int v : bound) {
            int[] a = others.clone();
            a[place] = v;
            DUE.isTrue(state + ": " + act + Arrays.toString(a) + " is taken", call.of(state.make(), a) != answer);
        }
    }

    private void refusedBeyond(String act, long answer, Ints call, int[] others, int place, int[] bound) {
        if (bound == ANY) {
            return;
        }
        for (int v : new int[] {bound[0] - 1, bound[1] + 1, LEAST, MOST}) {
            // A lowest bound of LEAST has none below it.
            if (v < bound[0] || v > bound[1]) {
                int[] a = others.clone();
                a[place] = v;
                refused(act + Arrays.toString(a), answer, x -> call.of(x, a));
            }
        }
    }

    private static int[] from(int least, int most) {
        return new int[] {least, most};
    }

    private void badOfTexts() {
        int[] text = from(0, 1), what = from(0, 2);
        bad("type", (x, a) -> x.type(a[0], a[1]), text, from(0, 255));
        bad("wipe", (x, a) -> x.wipe(a[0]), text);
        bad("undo", (x, a) -> x.undo(a[0]), text);
        bad("fault", (x, a) -> x.fault(a[0]), text);
        bad("swell", (x, a) -> x.swell(a[0], a[1]), from(0, swells - 1), what);
        bad("find", (x, a) -> x.find(a[0], a[1]), from(0, finds - 1), what);
        bad("depth", (x, a) -> x.depth(a[0]), from(0, 55));
        bad("slip", (x, a) -> x.slip(a[0], a[1]), from(1, 240), from(1, 11));
        bad("wake", (x, a) -> x.wake(a[0]), TIME);
        bad("ticket", (x, a) -> x.ticket(a[0], a[1]), HOLDER, NUMBER);
        bad("back", (x, a) -> x.back(a[0]), what);
        bad("read", (x, a) -> x.read(a[0]), SHEET);
    }

    private void badOfWaves() {
        int[] one = from(0, 1);
        bad("high", (x, a) -> x.high(a[0]), TIME);
        bad("wave", (x, a) -> x.wave(a[0], a[1]), TIME, from(0, 2));
        bad("when", (x, a) -> x.when(a[0]), NUMBER);
        bad("called", (x, a) -> x.called(a[0], a[1]), TIME, TIME);
        bad("brings", (x, a) -> x.brings(a[0]), NUMBER);
        bad("claims", (x, a) -> x.claims(a[0]), HOLDER);
        bad("good", (x, a) -> x.good(a[0]), from(0, tickets - 1));
        // "BAD: also one twice", so that the other one is none of those at the bounds.
        bad("agree, first", (x, a) -> x.agree(a[0], 1, a[1], a[2]), swells == 0 ? from(0, -1) : from(0, 0), TIME, one);
        bad("agree, last", (x, a) -> x.agree(swells - 1, a[0], a[1], a[2]), from(0, swells - 2), TIME, one);
        bad("agree, of the last", (x, a) -> x.agree(a[0], 0, a[1], a[2]), from(1, swells - 1), TIME, one);
        for (int it = -1; it <= swells; it++) {
            int twice = it;
            refused("agree(" + it + ", " + it + ", 0, 0)", BAD, x -> x.agree(twice, twice, 0, 0));
            refused("agree(" + it + ", " + it + ", 239, 1)", BAD, x -> x.agree(twice, twice, 239, 1));
        }
    }

    private void badOfPlans() {
        int[] what = from(0, 1);
        bad("run", (x, a) -> x.run(a[0], a[1]), from(1, 9), what);
        bad("bar", (x, a) -> x.bar(a[0]), from(0, 240));
        bad("earn", (x, a) -> x.earn(a[0], a[1]), HOLDER, what);
        bad("heard", (x, a) -> x.heard(a[0], a[1]), TIME, from(0, 400));
        bad("skipped", (x, a) -> x.skipped(a[0]), from(1, 11));
        bad("voids", (x, a) -> x.voids(a[0]), from(NONE, 239));
        bad("often", (x, a) -> x.often(a[0], a[1]), from(0, swells - 1), from(NONE, 97));
        // "Where the answer is a long, a refusal -x is the least long and x more."
        bad("hoarse", LEAST_LONG + 2, (x, a) -> x.hoarse(a[0], a[1], a[2]), from(0, 16), from(1, 12), what);
        bad("storm", (x, a) -> x.storm(a[0], a[1], a[2]), ANY, from(1, 99), what);
    }

    private void badOfSheets() {
        bad("sheet", (x, a) -> x.sheet(a[0], a[1], a[2]), SHEET, FORM, from(LEAST, 48));
        bad("lose", (x, a) -> x.lose(a[0]), SHEET);
        bad("put", (x, a) -> x.put(a[0], a[1], a[2], a[3]), SHEET, FORM, ANY, ANY);
        bad("copy", (x, a) -> x.copy(a[0], a[1], a[2], a[3], a[4]), SHEET, ANY, SHEET, ANY, ANY);
        bad("write", (x, a) -> x.write(a[0], a[1]), TIME, SHEET);
        bad("count", (x, a) -> x.count(a[0]), from(0, 8));
        // "BAD: the least int": no FINDING, so that count() 8 is left.
        for (int v : new int[] {LEAST, -1, 4, MOST}) {
            refused("get(" + v + ", 0, 0)", LEAST, state.latestFinding(), x -> x.get(v, 0, 0));
            refused("get(" + v + ", 3, 0)", LEAST, state.latestFinding(), x -> x.get(v, 3, 0));
        }
        for (int v : new int[] {LEAST, -1, 3, MOST}) {
            refused("get(3, " + v + ", 0)", LEAST, state.latestFinding(), x -> x.get(3, v, 0));
            refused("get(0, " + v + ", -1)", LEAST, state.latestFinding(), x -> x.get(0, v, -1));
        }
    }

    /** "BAD: SHEET, FORM, above 48; SIZE": below 0, a SHEET is not made, LOST or not. */
    private void aboveAndBelowZeroOfNothing() {
        for (int s = 0; s < 4; s++) {
            int it = s;
            refused("sheet(" + s + ", 2, -1)", SIZE, x -> x.sheet(it, 2, -1));
            refused("sheet(" + s + ", 0, LEAST)", SIZE, x -> x.sheet(it, 0, LEAST));
            refused("sheet(" + s + ", 3, -1)", BAD, x -> x.sheet(it, 3, -1));
            refused("sheet(" + s + ", -1, -1)", BAD, x -> x.sheet(it, -1, -1));
        }
        refused("sheet(4, 0, -1)", BAD, x -> x.sheet(4, 0, -1));
        refused("sheet(-1, 0, LEAST)", BAD, x -> x.sheet(-1, 0, LEAST));
    }

    private void ofNothing() {
        for (int it = 0; it < 3; it++) {
            int what = it;
            refused("back(" + what + ")", NOT, x -> x.back(what));
            if (what < 2) {
                refused("undo(" + what + ")", NOT, x -> x.undo(what));
            }
        }
        ofLostSheets();
    }

    /** All SHEETS of this state are LOST: NULL, also where there is no such item and of whatever FORM. */
    private void ofLostSheets() {
        for (int it = 0; it < 4; it++) {
            int s = it;
            refused("read(" + s + ")", NULL, x -> x.read(s));
            refused("lose(" + s + ")", NULL, x -> x.lose(s));
            refused("write(0, " + s + ")", NULL, x -> x.write(0, s));
            refused("write(239, " + s + ")", NULL, x -> x.write(239, s));
            refused("write(240, " + s + "): BAD is ahead of NULL", BAD, x -> x.write(240, s));
            for (int form = 0; form < 3; form++) {
                int f = form;
                refused("put(" + s + ", " + f + ", 0, 5)", NULL, x -> x.put(s, f, 0, 5));
                refused("put(" + s + ", " + f + ", -1, 5): NULL is ahead of INDEX", NULL, x -> x.put(s, f, -1, 5));
                refused("get(" + s + ", " + f + ", 0)", LEAST, 1, x -> x.get(s, f, 0));
                refused("get(" + s + ", " + f + ", 48): NULL is ahead of INDEX", LEAST, 1, x -> x.get(s, f, 48));
            }
            refused("put(" + s + ", 3, 0, 5): BAD is ahead of NULL", BAD, x -> x.put(s, 3, 0, 5));
            refused("copy of " + s + " to itself", NULL, x -> x.copy(s, 0, s, 0, 0));
            refused("copy of " + s + " to 0: NULL is ahead of STORE and INDEX", NULL, x -> x.copy(s, -1, 0, 0, 1));
            refused("copy of " + s + " to no SHEET: BAD is ahead of NULL", BAD, x -> x.copy(s, 0, 4, 0, 0));
            refused("copy of no SHEET to " + s + ": BAD is ahead of NULL", BAD, x -> x.copy(-1, 0, s, 0, 0));
        }
    }

    /** SHEET 0: 5 ints; 1: 3 shorts; 2: no bytes; 3: LOST. */
    private void ofFindings() {
        int[] sizes = {5, 3, 0};
        for (int it = 0; it < 3; it++) {
            int s = it, own = 2 - s, size = sizes[s];
            for (int i : new int[] {LEAST, -1, size, 48, MOST}) {
                refused("put(" + s + ", own, " + i + ", 9)", INDEX, x -> x.put(s, own, i, 9));
                refused("get(" + s + ", own, " + i + ")", LEAST, 2, x -> x.get(s, own, i));
                castIsAheadOfIndex(s, own, i);
            }
            castIsAheadOfIndex(s, own, 0);
            refused("put(" + s + ", 3, 0, 9): BAD is ahead of CAST", BAD, x -> x.put(s, 3, 0, 9));
            copyBeyond(s, size);
            refused("copy of LOST 3 to " + s, NULL, x -> x.copy(3, 0, s, 0, 0));
            refused("copy of " + s + " to LOST 3: NULL is ahead of STORE and INDEX", NULL, x -> x.copy(s, -1, 3, 0, 1));
        }
        refused("copy of shorts to ints", STORE, x -> x.copy(1, 0, 0, 0, 1));
        refused("copy of ints to shorts", STORE, x -> x.copy(0, 0, 1, 0, 1));
        refused("copy of no bytes to ints: STORE of no items, too", STORE, x -> x.copy(2, 0, 0, 0, 0));
        refused("copy of ints to shorts: STORE is ahead of INDEX", STORE, x -> x.copy(0, -1, 1, 99, -1));
        refused("read of the LOST one", NULL, x -> x.read(3));
        refused("write to the LOST one", NULL, x -> x.write(0, 3));
    }

    private void castIsAheadOfIndex(int s, int own, int i) {
        for (int form = 0; form < 3; form++) {
            int f = form;
            if (f != own) {
                refused("put(" + s + ", " + f + ", " + i + ", 9)", CAST, x -> x.put(s, f, i, 9));
                refused("get(" + s + ", " + f + ", " + i + ")", LEAST, 3, x -> x.get(s, f, i));
            }
        }
    }

    /** "INDEX: below 0, not so many", also where i and n or j and n wrap. */
    private void copyBeyond(int s, int size) {
        int[][] beyond = {{-1, 0, 0}, {0, -1, 0}, {0, 0, -1}, {LEAST, 0, 0}, {0, LEAST, 0}, {0, 0, LEAST},
            {size + 1, 0, 0}, {0, size + 1, 0}, {0, 0, size + 1}, {size, 0, 1}, {0, size, 1}, {1, 0, size},
            {0, 1, size}, {MOST, 0, 0}, {0, MOST, 0}, {0, 0, MOST}, {1, 0, MOST}, {0, 1, MOST}, {MOST, MOST, MOST},
            {MOST, 0, 1}, {0, MOST, 1}, {-1, 0, 1}, {0, -1, 1}, {1, 1, -1}, {LEAST, LEAST, LEAST}, {2, 2, LEAST}};
        for (int[] b : beyond) {
            // One item from 1 on of none, or none of them from 1 on, is beyond it as well.
            refused("copy of " + s + " by " + Arrays.toString(b), INDEX, x -> x.copy(s, b[0], s, b[1], b[2]));
        }
    }

    private void ofFullOnes() {
        for (int b : new int[] {0, '0', ';', 255}) {
            refused("type(0, " + b + ") of 35 bytes", FULL, x -> x.type(0, b));
            refused("type(1, " + b + ") of 47 bytes", FULL, x -> x.type(1, b));
        }
        refused("slip(1, 1) behind 12", FULL, x -> x.slip(1, 1));
        refused("slip(240, 11) behind 12", FULL, x -> x.slip(240, 11));
        refused("wake(0) behind 8", FULL, x -> x.wake(0));
        refused("wake(239) behind 8", FULL, x -> x.wake(239));
        refused("wake(9) again behind 8", FULL, x -> x.wake(9));
        refused("ticket(0, 1) behind 12", FULL, x -> x.ticket(0, 1));
        refused("ticket(7, 400) behind 12", FULL, x -> x.ticket(7, 400));
        refused("heard(0, 0) behind 8", FULL, x -> x.heard(0, 0));
        refused("heard(239, 400) behind 8", FULL, x -> x.heard(239, 400));
        // Those of badOfTexts() and badOfPlans() in this state show that BAD is ahead of FULL.
        refused("put(3, 0, 48, 1)", INDEX, x -> x.put(3, 0, 48, 1));
        refused("get(3, 0, 48)", LEAST, 2, x -> x.get(3, 0, 48));
        refused("sheet(0, 0, 49)", BAD, x -> x.sheet(0, 0, 49));
        refused("copy of all 48 and 1", INDEX, x -> x.copy(0, 0, 3, 0, 49));
        refused("copy of all 48 from 1 on", INDEX, x -> x.copy(0, 1, 3, 0, 48));
        refused("copy of all 48 to 1", INDEX, x -> x.copy(0, 0, 3, 1, 48));
        refused("copy of bytes to shorts", STORE, x -> x.copy(0, 0, 1, 0, 48));
        // No refusal: none of TICKETS may be, for they are full.
        refused("read(0) behind 12", 0, x -> x.read(0));
    }

    /** "With a FAULT a text is as if it was empty": no SWELL, no FIND there; but bytes to wipe and undo. */
    private void ofFaultyTexts() {
        refused("swell(0, 0)", BAD, x -> x.swell(0, 0));
        refused("find(0, 0)", BAD, x -> x.find(0, 0));
        refused("agree(0, 1, 0, 0)", BAD, x -> x.agree(0, 1, 0, 0));
        refused("often(0, -1)", BAD, x -> x.often(0, -1));
        DUE.is("undo(0) of a faulty text", States.FAULTY.make().undo(0), 8);
        DUE.is("undo(1) of a faulty text", States.FAULTY.make().undo(1), 7);
        DUE.is("wipe(0) of a faulty text", States.FAULTY.make().wipe(0), 9);
        DUE.is("wipe(1) of a faulty text", States.FAULTY.make().wipe(1), 8);
    }
}
