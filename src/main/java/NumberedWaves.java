import java.util.Arrays;

/**
 * Numbered waves on a coast: who holds the ticket of a wave's number has what it brings.
 * The promises behind each method stand in ../shared/DOC.md.
 */
public final class NumberedWaves {
    public static final int NONE = -1, BAD = -2, NOT = -3, FULL = -4;

    private static final int NULL = 1, INDEX = 2, CAST = 3, STORE = 4, SIZE = 5;
    private static final int TIMES = 240;
    private static final int DEEPEST = 55;
    private static final int HOLDERS = 8;
    private static final int NUMBERS = 400;
    private static final int LEAST_PERIOD = 2, MOST_PERIOD = 99;
    private static final int MOST_SKIPPED = 11;
    private static final int SKIP_PLACES = 31;
    private static final int LONGEST_RUN = 9;
    private static final int MOST_LOTS = 99;
    private static final int CHANCES = 16;
    private static final int HOARSE_NUMBERS = 12;
    private static final int SHEETS = 4, FORMS = 3, ITEMS = 48;
    private static final int LEAST_INT = 1 << 31;
    private static final long LEAST_LONG = 1L << 63;

    private static final int[] SWELL_PARTS = {0, 1, 1, 2, 2};
    private static final int[] SWELL_LEAST = {1, 2, 0};
    private static final int[] FIND_PARTS = {0, 0, 1, 1, 2};
    private static final int[] FIND_LEAST = {1, 0, 0};
    private static final int[] DIGEST_TIMES = {0, 1, 60, 239};
    private static final int[] DIGEST_NUMBERS = {1, 7, 40};

    private final Text swells;
    private final Text finds;
    private final Pairs slips;
    private final Pairs wakes;
    private final Pairs tickets;
    private final Pairs sayings;
    private final Waves kept;
    private final Sheet[] sheets;
    private final int[] dueNumbers;
    private final long[] ways;
    private int deep;
    private int latest;
    private boolean keptIsFresh;

    public NumberedWaves() {
        swells = new Text(35, SWELL_PARTS, SWELL_LEAST);
        finds = new Text(47, FIND_PARTS, FIND_LEAST);
        slips = new Pairs(12);
        wakes = new Pairs(8);
        tickets = new Pairs(12);
        sayings = new Pairs(8);
        kept = new Waves();
        sheets = new Sheet[SHEETS];
        for (int s = 0; s < SHEETS; s++) {
            sheets[s] = new Sheet();
        }
        dueNumbers = new int[TIMES];
        ways = new long[HOARSE_NUMBERS + 1];
        deep = 0;
        latest = 0;
        keptIsFresh = false;
    }

    // ---- swells, finds, tickets

    public int type(int text, int b) {
        if (!isBelow(text, 2) || !isBelow(b, 256)) {
            return BAD;
        }
        Text changed = textOf(text);
        if (!changed.append(b)) {
            return FULL;
        }
        keptIsFresh = false;
        return changed.length;
    }

    public int wipe(int text) {
        if (!isBelow(text, 2)) {
            return BAD;
        }
        Text changed = textOf(text);
        int had = changed.length;
        changed.cutTo(0);
        keptIsFresh = false;
        return had;
    }

    public int undo(int text) {
        if (!isBelow(text, 2)) {
            return BAD;
        }
        Text changed = textOf(text);
        if (changed.length == 0) {
            return NOT;
        }
        changed.cutTo(changed.length - 1);
        keptIsFresh = false;
        return changed.length;
    }

    public int fault(int text) {
        return isBelow(text, 2) ? textOf(text).flaw : BAD;
    }

    public int swell(int swell, int what) {
        return partOf(swells, swell, what);
    }

    public int find(int find, int what) {
        return partOf(finds, find, what);
    }

    public int depth(int v) {
        if (!isFrom(v, 0, DEEPEST)) {
            return BAD;
        }
        int was = deep;
        deep = v;
        keptIsFresh = false;
        return was;
    }

    public int slip(int k, int many) {
        if (!isFrom(k, 1, TIMES) || !isFrom(many, 1, MOST_SKIPPED)) {
            return BAD;
        }
        return tell(slips, k, many);
    }

    public int wake(int time) {
        return isTime(time) ? tell(wakes, time, 0) : BAD;
    }

    public int ticket(int holder, int number) {
        return mayBeTicket(holder, number) ? tell(tickets, holder, number) : BAD;
    }

    public int back(int what) {
        if (!isBelow(what, 3)) {
            return BAD;
        }
        Pairs told = what == 0 ? slips : what == 1 ? wakes : tickets;
        if (!told.dropLast()) {
            return NOT;
        }
        keptIsFresh = false;
        return told.size;
    }

    public int read(int s) {
        int refusal = sheetRefusal(s);
        if (refusal != 0) {
            return refusal;
        }
        Sheet from = sheets[s];
        int taken = 0;
        for (int i = 0; i + 1 < from.size; i += 2) {
            int holder = from.items[i];
            int number = from.items[i + 1];
            if (!mayBeTicket(holder, number) || !tickets.append(holder, number)) {
                break;
            }
            taken++;
        }
        return taken;
    }

    // ---- waves

    public int high(int time) {
        return isTime(time) ? waves().heights[time] : BAD;
    }

    public int wave(int time, int what) {
        if (!isTime(time) || !isBelow(what, 3)) {
            return BAD;
        }
        if (what == 0) {
            return breaksAt(waves().heights[time], deep) ? 1 : 0;
        }
        if (what == 1) {
            return waves().numberAt(time);
        }
        return waves().isDouble(time) ? 1 : 0;
    }

    public int when(int number) {
        return isNumber(number) ? waves().times[number] : BAD;
    }

    public int called(int from, int to) {
        if (!isTime(from) || !isTime(to)) {
            return BAD;
        }
        Waves now = waves();
        int many = 0;
        for (int time = from; time <= to; time++) {
            if (now.turns[time] > 0) {
                many++;
            }
        }
        return many;
    }

    public int brings(int number) {
        return isNumber(number) ? valueOf(number) : BAD;
    }

    public int claims(int holder) {
        if (!isBelow(holder, HOLDERS)) {
            return BAD;
        }
        return claimsBy(waves(), holder);
    }

    public int good(int ticket) {
        if (!isBelow(ticket, tickets.size)) {
            return BAD;
        }
        int number = tickets.second[ticket];
        boolean genuine = tickets.firstWithSecond(number) == ticket;
        return genuine && waves().times[number] != NONE ? 1 : 0;
    }

    public int agree(int a, int b, int from, int what) {
        if (!isBelow(a, swells.entries) || !isBelow(b, swells.entries) || a == b) {
            return BAD;
        }
        if (!isTime(from) || !isBelow(what, 2)) {
            return BAD;
        }
        int period = swells.part(a, 1);
        int other = swells.part(b, 1);
        int time = firstCrest(a, Math.max(from, swells.part(b, 2)));
        // The rests of a's CRESTS by b's PERIOD come again after so many of them.
        for (int i = 0; i < other; i++) {
            if (isCrest(time, swells.part(b, 2), other)) {
                return what == 0 ? time : leastCommonMultiple(period, other);
            }
            time += period;
        }
        return NONE;
    }

    // ---- plans

    public int run(int n, int what) {
        if (!isFrom(n, 1, LONGEST_RUN) || !isBelow(what, 2)) {
            return BAD;
        }
        Waves now = waves();
        int best = NONE;
        int most = NONE;
        for (int first = 1; first + n - 1 <= now.last(); first++) {
            int sum = sumOfRun(now, first, n);
            if (sum > most) {
                most = sum;
                best = first;
            }
        }
        return what == 0 ? best : most;
    }

    public int bar(int many) {
        if (!isFrom(many, 0, TIMES)) {
            return BAD;
        }
        Waves now = waves();
        // At the deepest no WAVE can break: six SWELLS of 9 are 54 high.
        for (int v = 0; v < DEEPEST; v++) {
            if (now.breakingBy(v) <= many) {
                return v;
            }
        }
        return DEEPEST;
    }

    public int earn(int holder, int what) {
        if (!isBelow(holder, HOLDERS) || !isBelow(what, 2)) {
            return BAD;
        }
        Waves now = waves();
        int best = NONE;
        int most = 0;
        for (int number = 1; number <= NUMBERS; number++) {
            // One more of a NUMBER that is told already would be COUNTERFEIT.
            if (tickets.firstWithSecond(number) == NONE) {
                int worth = worthOf(now, number);
                if (worth > most) {
                    most = worth;
                    best = number;
                }
            }
        }
        if (best == NONE) {
            return NONE;
        }
        return what == 0 ? best : claimsBy(now, holder) + most;
    }

    // ---- heard, storms

    public int heard(int time, int number) {
        if (!isTime(time) || !isFrom(number, 0, NUMBERS)) {
            return BAD;
        }
        return sayings.append(time, number) ? sayings.size : FULL;
    }

    public int forget() {
        int had = sayings.size;
        sayings.size = 0;
        return had;
    }

    public int skipped(int many) {
        if (!isFrom(many, 1, MOST_SKIPPED)) {
            return BAD;
        }
        Waves now = waves();
        int bits = 0;
        for (int k = 1; k <= SKIP_PLACES; k++) {
            if (fitsSlip(now, k, many)) {
                bits |= 1 << (k - 1);
            }
        }
        return bits;
    }

    public int voids(int i) {
        if (!isFrom(i, NONE, TIMES - 1)) {
            return BAD;
        }
        Waves now = waves();
        int found = 0;
        for (int time = 0; time < TIMES; time++) {
            if (fitsWake(now, time)) {
                if (found == i) {
                    return time;
                }
                found++;
            }
        }
        return i == NONE ? found : NONE;
    }

    public int often(int swell, int i) {
        if (!isBelow(swell, swells.entries) || !isFrom(i, NONE, MOST_PERIOD - LEAST_PERIOD)) {
            return BAD;
        }
        Waves now = waves();
        int end = markDueNumbers();
        int found = 0;
        for (int period = LEAST_PERIOD; period <= MOST_PERIOD; period++) {
            if (fitsPeriod(now, swell, period, end)) {
                if (found == i) {
                    return period;
                }
                found++;
            }
        }
        return i == NONE ? found : NONE;
    }

    public long hoarse(int c, int number, int what) {
        if (!isFrom(c, 0, CHANCES) || !isFrom(number, 1, HOARSE_NUMBERS) || !isBelow(what, 2)) {
            return LEAST_LONG - BAD;
        }
        Arrays.fill(ways, 0L);
        ways[0] = 1;
        long above = 0;
        long below = 1;
        // Behind so many WAVES as the NUMBER says it is called or passed.
        int steps = Math.min(number, waves().calls);
        for (int j = 0; j < steps; j++) {
            stepWays(c);
            above = above * CHANCES + ways[number];
            below = below * CHANCES;
        }
        int shared = sharedTwos(above, below);
        return what == 0 ? above >> shared : below >> shared;
    }

    public int storm(int seed, int n, int what) {
        if (!isFrom(n, 1, MOST_LOTS) || !isBelow(what, 2)) {
            return BAD;
        }
        Waves now = waves();
        int sum = 0;
        int many = 0;
        int lot = seed;
        for (int i = 0; i < n; i++) {
            lot = 1103515245 * lot + 12345;
            int number = now.numberAt((lot >>> 16) % TIMES);
            if (number > 0) {
                sum += valueOf(number);
                many++;
            }
        }
        return what == 0 ? sum : many;
    }

    // ---- sheets

    public int sheet(int s, int form, int n) {
        if (!isBelow(s, SHEETS) || !isBelow(form, FORMS) || n > ITEMS) {
            return BAD;
        }
        if (n < 0) {
            return finding(SIZE);
        }
        sheets[s].renew(form, n);
        return n;
    }

    public int lose(int s) {
        int refusal = sheetRefusal(s);
        if (refusal != 0) {
            return refusal;
        }
        sheets[s].lost = true;
        return sheets[s].size;
    }

    public int put(int s, int form, int i, int v) {
        int refusal = itemRefusal(s, form, i);
        if (refusal != 0) {
            return refusal;
        }
        sheets[s].store(i, v);
        return 1;
    }

    public int get(int s, int form, int i) {
        return itemRefusal(s, form, i) != 0 ? LEAST_INT : sheets[s].items[i];
    }

    public int copy(int s, int i, int t, int j, int n) {
        if (!isBelow(s, SHEETS) || !isBelow(t, SHEETS)) {
            return BAD;
        }
        Sheet from = sheets[s];
        Sheet to = sheets[t];
        if (from.lost || to.lost) {
            return finding(NULL);
        }
        if (from.form != to.form) {
            return finding(STORE);
        }
        if (!from.hasRange(i, n) || !to.hasRange(j, n)) {
            return finding(INDEX);
        }
        System.arraycopy(from.items, i, to.items, j, n);
        return 1;
    }

    public int write(int time, int s) {
        if (!isTime(time)) {
            return BAD;
        }
        int refusal = sheetRefusal(s);
        if (refusal != 0) {
            return refusal;
        }
        Waves now = waves();
        int many = Math.min(sheets[s].size, TIMES - time);
        for (int i = 0; i < many; i++) {
            sheets[s].store(i, now.numberAt(time + i));
        }
        return many;
    }

    public int count(int what) {
        switch (what) {
            case 0: return swells.entries;
            case 1: return finds.entries;
            case 2: return swells.length;
            case 3: return finds.length;
            case 4: return waves().breakingBy(deep);
            case 5: return tickets.size;
            case 6: return waves().last();
            case 7: return sayings.size;
            case 8: return latest;
            default: return BAD;
        }
    }

    public long digest() {
        long h = 17;
        for (int what = 0; what <= 7; what++) {
            h = 31 * h + count(what);
        }
        h = 31 * h + fault(0);
        h = 31 * h + fault(1);
        h = digestSwells(h);
        h = digestFinds(h);
        h = digestTimes(h);
        h = digestNumbers(h);
        h = digestTickets(h);
        return digestPlans(h);
    }

    // ---- parts of the digest

    private long digestSwells(long start) {
        long h = start;
        for (int it = 0; it < swells.entries; it++) {
            for (int what = 0; what < 3; what++) {
                h = 31 * h + swell(it, what);
            }
            h = 31 * h + agree(0, it, 5, 0);
            h = 31 * h + agree(0, it, 5, 1);
            h = 31 * h + often(it, NONE);
            h = 31 * h + often(it, 0);
        }
        return h;
    }

    private long digestFinds(long start) {
        long h = start;
        for (int it = 0; it < finds.entries; it++) {
            for (int what = 0; what < 3; what++) {
                h = 31 * h + find(it, what);
            }
        }
        return h;
    }

    private long digestTimes(long start) {
        long h = start;
        for (int time : DIGEST_TIMES) {
            h = 31 * h + high(time);
            for (int what = 0; what < 3; what++) {
                h = 31 * h + wave(time, what);
            }
            h = 31 * h + called(0, time);
        }
        return h;
    }

    private long digestNumbers(long start) {
        long h = start;
        for (int number : DIGEST_NUMBERS) {
            h = 31 * h + when(number);
            h = 31 * h + brings(number);
        }
        return h;
    }

    private long digestTickets(long start) {
        long h = start;
        for (int holder = 0; holder < HOLDERS; holder++) {
            h = 31 * h + claims(holder);
            h = 31 * h + earn(holder, 0);
            h = 31 * h + earn(holder, 1);
        }
        for (int it = 0; it < tickets.size; it++) {
            h = 31 * h + good(it);
        }
        return h;
    }

    private long digestPlans(long start) {
        long h = start;
        h = 31 * h + run(3, 0);
        h = 31 * h + run(3, 1);
        h = 31 * h + bar(9);
        h = 31 * h + skipped(1);
        h = 31 * h + voids(NONE);
        h = 31 * h + voids(0);
        h = 31 * h + hoarse(5, 4, 0);
        h = 31 * h + hoarse(5, 4, 1);
        h = 31 * h + storm(7, 30, 0);
        h = 31 * h + storm(7, 30, 1);
        return h;
    }

    // ---- what may be told

    private static boolean isBelow(int v, int bound) {
        return v >= 0 && v < bound;
    }

    private static boolean isFrom(int v, int least, int most) {
        return v >= least && v <= most;
    }

    private static boolean isTime(int v) {
        return isBelow(v, TIMES);
    }

    private static boolean isNumber(int v) {
        return isFrom(v, 1, NUMBERS);
    }

    private static boolean mayBeTicket(int holder, int number) {
        return isBelow(holder, HOLDERS) && isNumber(number);
    }

    private Text textOf(int text) {
        return text == 0 ? swells : finds;
    }

    private static int partOf(Text text, int entry, int what) {
        return isBelow(entry, text.entries) && isBelow(what, 3) ? text.part(entry, what) : BAD;
    }

    private int tell(Pairs told, int first, int second) {
        if (!told.append(first, second)) {
            return FULL;
        }
        keptIsFresh = false;
        return told.size;
    }

    private int finding(int number) {
        latest = number;
        return -10 - number;
    }

    private int sheetRefusal(int s) {
        if (!isBelow(s, SHEETS)) {
            return BAD;
        }
        return sheets[s].lost ? finding(NULL) : 0;
    }

    private int itemRefusal(int s, int form, int i) {
        if (!isBelow(form, FORMS)) {
            return BAD;
        }
        int refusal = sheetRefusal(s);
        if (refusal != 0) {
            return refusal;
        }
        if (sheets[s].form != form) {
            return finding(CAST);
        }
        return isBelow(i, sheets[s].size) ? 0 : finding(INDEX);
    }

    // ---- waves and what they bring

    /** Many calls ask for the same WAVES, so they are reckoned anew only when something was told. */
    private Waves waves() {
        if (!keptIsFresh) {
            kept.reckon(swells, deep, wakes, slips);
            keptIsFresh = true;
        }
        return kept;
    }

    private static boolean isCrest(int time, int start, int period) {
        return period > 0 && time >= start && (time - start) % period == 0;
    }

    private static boolean breaksAt(int height, int depth) {
        return height >= 1 && height >= depth;
    }

    private int valueOf(int number) {
        int sum = 0;
        for (int i = 0; i < finds.entries; i++) {
            int modulus = finds.part(i, 0);
            if (modulus > 0 && number % modulus == finds.part(i, 1)) {
                sum += finds.part(i, 2);
            }
        }
        return sum;
    }

    /** What the HOLDER of a NUMBER has by it: of its own WAVE, and of a DOUBLE one just ahead. */
    private int worthOf(Waves now, int number) {
        int sum = 0;
        int time = now.times[number];
        if (time != NONE) {
            sum += now.isDouble(time) ? valueOf(number) / 2 : valueOf(number);
        }
        int ahead = now.times[number - 1];
        if (ahead != NONE && now.isDouble(ahead)) {
            sum += valueOf(number - 1) / 2;
        }
        return sum;
    }

    private int claimsBy(Waves now, int holder) {
        int sum = 0;
        for (int i = 0; i < tickets.size; i++) {
            int number = tickets.second[i];
            if (tickets.first[i] == holder && tickets.firstWithSecond(number) == i) {
                sum += worthOf(now, number);
            }
        }
        return sum;
    }

    private int sumOfRun(Waves now, int first, int n) {
        int sum = 0;
        for (int number = first; number < first + n; number++) {
            if (now.times[number] != NONE) {
                sum += valueOf(number);
            }
        }
        return sum;
    }

    private int firstCrest(int swell, int from) {
        int period = swells.part(swell, 1);
        int start = swells.part(swell, 2);
        if (from <= start || period <= 0) {
            return start;
        }
        return start + (from - start + period - 1) / period * period;
    }

    private static int leastCommonMultiple(int a, int b) {
        int divisor = a;
        int rest = b;
        for (int i = 0; i < 64 && rest != 0; i++) {
            int next = divisor % rest;
            divisor = rest;
            rest = next;
        }
        return divisor > 0 ? a / divisor * b : 0;
    }

    // ---- what was heard

    private boolean fitsSlip(Waves now, int k, int many) {
        for (int i = 0; i < sayings.size; i++) {
            int turn = now.turns[sayings.first[i]];
            int number = now.numbers[turn] + (turn >= k ? many : 0);
            if (number != sayings.second[i]) {
                return false;
            }
        }
        return true;
    }

    private boolean fitsWake(Waves now, int wakeTime) {
        boolean wasCalled = now.turns[wakeTime] > 0;
        for (int i = 0; i < sayings.size; i++) {
            int time = sayings.first[i];
            int turn = now.turns[time];
            if (wasCalled && turn > 0 && time >= wakeTime) {
                turn = time == wakeTime ? 0 : turn - 1;
            }
            if (now.numbers[turn] != sayings.second[i]) {
                return false;
            }
        }
        return true;
    }

    /** Lays what was HEARD by its TIME; answers behind which TIME nothing was (0: none at all). */
    private int markDueNumbers() {
        Arrays.fill(dueNumbers, NONE);
        int end = 0;
        for (int i = 0; i < sayings.size; i++) {
            int time = sayings.first[i];
            int number = sayings.second[i];
            // Two unlike ones at one TIME can never come out, and no NUMBER is BAD.
            dueNumbers[time] = dueNumbers[time] == NONE || dueNumbers[time] == number ? number : BAD;
            end = Math.max(end, time + 1);
        }
        return end;
    }

    private boolean fitsPeriod(Waves now, int swell, int period, int end) {
        int height = swells.part(swell, 0);
        int own = swells.part(swell, 1);
        int start = swells.part(swell, 2);
        int turn = 0;
        for (int time = 0; time < end; time++) {
            int total = now.heights[time];
            total -= isCrest(time, start, own) ? height : 0;
            total += isCrest(time, start, period) ? height : 0;
            int number = 0;
            if (breaksAt(total, deep) && !now.voided[time]) {
                turn++;
                number = now.numbers[turn];
            }
            if (dueNumbers[time] != NONE && dueNumbers[time] != number) {
                return false;
            }
        }
        return true;
    }

    // ---- the hoarse caller

    /** One WAVE more: ways[n] becomes how many sixteenths of ways end by NUMBER n. */
    private void stepWays(int c) {
        for (int n = HOARSE_NUMBERS; n >= 0; n--) {
            long plain = n >= 1 ? ways[n - 1] : 0;
            long skipping = n >= 2 ? ways[n - 2] : 0;
            ways[n] = (CHANCES - c) * plain + c * skipping;
        }
    }

    /** What is below is a power of 2, so that no divisor but 2 can be shared. */
    private static int sharedTwos(long above, long below) {
        int twos = 0;
        while (twos < 63 && ((above | below) >> twos & 1) == 0) {
            twos++;
        }
        return twos;
    }

    /** A text of entries of five figures in three parts each, with ; between them. */
    private static final class Text {
        private static final int FIGURES = 5, STRIDE = 6;

        private final int[] bytes;
        private final int[] partOfPlace;
        private final int[] leastOfPart;
        private final int[] parts;
        private int length;
        private int flaw;
        private int entries;

        Text(int limit, int[] partOfPlace, int[] leastOfPart) {
            this.bytes = new int[limit];
            this.partOfPlace = partOfPlace;
            this.leastOfPart = leastOfPart;
            // So many whole entries fill the limit: there is no room for one too many.
            this.parts = new int[(limit + 1) / STRIDE * 3];
            this.length = 0;
            this.flaw = NONE;
            this.entries = 0;
        }

        int part(int entry, int what) {
            return parts[3 * entry + what];
        }

        boolean append(int b) {
            if (length >= bytes.length) {
                return false;
            }
            bytes[length] = b;
            length++;
            parse();
            return true;
        }

        void cutTo(int newLength) {
            length = newLength;
            parse();
        }

        private void parse() {
            Arrays.fill(parts, 0);
            flaw = NONE;
            for (int i = 0; i < length && flaw == NONE; i++) {
                if (!goesOn(i)) {
                    flaw = i;
                }
            }
            if (flaw == NONE && length > 0 && length % STRIDE != FIGURES) {
                flaw = length;
            }
            entries = flaw == NONE ? (length + 1) / STRIDE : 0;
        }

        private boolean goesOn(int i) {
            int place = i % STRIDE;
            if (place == FIGURES) {
                return bytes[i] == ';';
            }
            int figure = bytes[i] - '0';
            if (figure < 0 || figure > 9) {
                return false;
            }
            int part = partOfPlace[place];
            int at = 3 * (i / STRIDE) + part;
            parts[at] = 10 * parts[at] + figure;
            boolean whole = place == FIGURES - 1 || partOfPlace[place + 1] != part;
            return !whole || parts[at] >= leastOfPart[part];
        }
    }

    /** What is told one behind the other, two numbers each, up to a limit. */
    private static final class Pairs {
        private final int[] first;
        private final int[] second;
        private int size;

        Pairs(int limit) {
            first = new int[limit];
            second = new int[limit];
            size = 0;
        }

        boolean append(int a, int b) {
            if (size >= first.length) {
                return false;
            }
            first[size] = a;
            second[size] = b;
            size++;
            return true;
        }

        boolean dropLast() {
            if (size == 0) {
                return false;
            }
            size--;
            return true;
        }

        int firstWithSecond(int b) {
            for (int i = 0; i < size; i++) {
                if (second[i] == b) {
                    return i;
                }
            }
            return NONE;
        }
    }

    /** All WAVES as they are by what was told. */
    private static final class Waves {
        private final int[] heights = new int[TIMES];
        private final int[] crests = new int[TIMES];
        private final boolean[] voided = new boolean[TIMES];
        /** As the how manieth a TIME's WAVE is called; 0: it is not. */
        private final int[] turns = new int[TIMES];
        /** The NUMBER of the k-th that is called, also of those that are not reached; 0 for none. */
        private final int[] numbers = new int[TIMES + 1];
        /** The TIME of a NUMBER, or NONE; place 0 spares a test of what is ahead of NUMBER 1. */
        private final int[] times = new int[NUMBERS + 1];
        private int calls;

        int numberAt(int time) {
            return numbers[turns[time]];
        }

        boolean isDouble(int time) {
            return crests[time] >= 2;
        }

        int last() {
            return numbers[calls];
        }

        int breakingBy(int depth) {
            int many = 0;
            for (int time = 0; time < TIMES; time++) {
                if (breaksAt(heights[time], depth)) {
                    many++;
                }
            }
            return many;
        }

        void reckon(Text swells, int depth, Pairs wakes, Pairs slips) {
            reckonHeights(swells);
            reckonNumbers(slips);
            Arrays.fill(times, NONE);
            for (int time = 0; time < TIMES; time++) {
                voided[time] = false;
            }
            for (int i = 0; i < wakes.size; i++) {
                voided[wakes.first[i]] = true;
            }
            calls = 0;
            for (int time = 0; time < TIMES; time++) {
                turns[time] = 0;
                if (breaksAt(heights[time], depth) && !voided[time]) {
                    calls++;
                    turns[time] = calls;
                    times[numbers[calls]] = time;
                }
            }
        }

        private void reckonHeights(Text swells) {
            Arrays.fill(heights, 0);
            Arrays.fill(crests, 0);
            for (int i = 0; i < swells.entries; i++) {
                for (int time = 0; time < TIMES; time++) {
                    if (isCrest(time, swells.part(i, 2), swells.part(i, 1))) {
                        heights[time] += swells.part(i, 0);
                        crests[time]++;
                    }
                }
            }
        }

        private void reckonNumbers(Pairs slips) {
            for (int k = 0; k <= TIMES; k++) {
                numbers[k] = k;
            }
            for (int i = 0; i < slips.size; i++) {
                for (int k = slips.first[i]; k <= TIMES; k++) {
                    numbers[k] += slips.second[i];
                }
            }
        }
    }

    /** A row of one FORM; its items are kept whole and cut to the FORM's bits as they come. */
    private static final class Sheet {
        private final int[] items = new int[ITEMS];
        private int form = 0;
        private int size = 0;
        private boolean lost = true;

        void renew(int newForm, int newSize) {
            Arrays.fill(items, 0);
            form = newForm;
            size = newSize;
            lost = false;
        }

        void store(int i, int v) {
            items[i] = form == 0 ? (byte) v : form == 1 ? (short) v : v;
        }

        boolean hasRange(int from, int n) {
            return from >= 0 && n >= 0 && from <= size && n <= size - from;
        }
    }
}
