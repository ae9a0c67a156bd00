import java.util.Random;

/** Random runs of calls, each answer against Model's; the seeds are fixed, so a run is always the same. */
public final class ModelTest {
    private static final int RUNS = 300, CALLS = 512;
    private static final int[] WILD = {Integer.MIN_VALUE, Integer.MAX_VALUE, -11, -3, -2, -1, 0, 1, 2, 3,
        6, 7, 8, 9, 10, 12, 13, 16, 17, 31, 48, 49, 55, 56, 97, 98, 99, 100, 239, 240, 241, 255, 256, 400, 401};

    private final Random dice;
    private final NumberedWaves x = new NumberedWaves();
    private final Model m = new Model();
    private final Due due;
    private final int run;

    private ModelTest(int run, Due due) {
        this.run = run;
        this.due = due;
        this.dice = new Random(run);
    }

    public static void main(String[] args) {
        Due due = new Due();
        for (int run = 0; run < RUNS && due.wrong() == 0; run++) {
            new ModelTest(run, due).play();
        }
        due.end();
    }

    private void play() {
        for (int i = 0; i < CALLS - 1 && due.wrong() == 0; i++) {
            // One run in eight has no typed laws at first, so that empty texts are played too.
            if (i == 0 && run % 8 != 0) i += typeLaws();
            else step();
        }
        is("digest()", x.digest(), m.digest());
    }

    private void is(String call, long got, long want) {
        due.is("run " + run + ": " + call, got, want);
    }

    /** A number from least to most, and now and then one that is not as told. */
    private int some(int least, int most) {
        return dice.nextInt(25) == 0 ? WILD[dice.nextInt(WILD.length)] : least + dice.nextInt(most - least + 1);
    }

    private void type(int text, int b) {
        is("type(" + text + ", " + b + ")", x.type(text, b), m.type(text, b));
    }

    private static String two(int v) {
        return "" + v / 10 + v % 10;
    }

    private String someSwell() {
        int period = dice.nextBoolean() ? 2 + dice.nextInt(12) : 2 + dice.nextInt(98);
        int start = dice.nextBoolean() ? dice.nextInt(6) : dice.nextInt(100);
        return "" + (1 + dice.nextInt(9)) + two(period) + two(start);
    }

    private String someFind() {
        int modulus = dice.nextBoolean() ? 1 + dice.nextInt(5) : 1 + dice.nextInt(99);
        int rest = dice.nextInt(6) == 0 ? dice.nextInt(100) : dice.nextInt(modulus);
        return two(modulus) + two(rest) + dice.nextInt(10);
    }

    private int typeLaws() {
        int typed = 0;
        for (int text = 0; text < 2; text++) {
            int most = 1 + dice.nextInt(text == 0 ? 6 : 8);
            for (int i = 0; i < most; i++) {
                String law = (i == 0 ? "" : ";") + (text == 0 ? someSwell() : someFind());
                for (int j = 0; j < law.length(); j++) {
                    type(text, law.charAt(j));
                    typed++;
                }
            }
        }
        return typed;
    }

    private void step() {
        switch (dice.nextInt(6)) {
            case 0: texts(); break;
            case 1: told(); break;
            case 2: waves(); break;
            case 3: plans(); break;
            case 4: heardOnes(); break;
            default: sheets(); break;
        }
    }

    private void texts() {
        int text = some(0, 1);
        switch (dice.nextInt(12)) {
            case 0:
                if (dice.nextInt(12) == 0) is("wipe(" + text + ")", x.wipe(text), m.wipe(text));
                break;
            case 1: case 2: case 3: is("undo(" + text + ")", x.undo(text), m.undo(text)); break;
            case 4: case 5: case 6: type(text, "0123456789;;;".charAt(dice.nextInt(13))); break;
            case 7: type(text, some(0, 255)); break;
            case 8: is("fault(" + text + ")", x.fault(text), m.fault(text)); break;
            case 9: swellAndFind(); break;
            default: mend(); break;
        }
    }

    /** Undoes behind a FAULT, so that most of a run has well texts. */
    private void mend() {
        for (int text = 0; text < 2; text++) {
            for (int i = 0; i < 6 && m.fault(text) != Model.NONE; i++) {
                is("undo(" + text + ")", x.undo(text), m.undo(text));
                is("fault(" + text + ")", x.fault(text), m.fault(text));
            }
        }
    }

    private void swellAndFind() {
        int which = some(0, 7), what = some(0, 2);
        String args = "(" + which + ", " + what + ")";
        is("swell" + args, x.swell(which, what), m.swell(which, what));
        is("find" + args, x.find(which, what), m.find(which, what));
    }

    private void told() {
        switch (dice.nextInt(7)) {
            case 0: {
                int v = dice.nextInt(3) == 0 ? some(0, 55) : some(0, 9);
                is("depth(" + v + ")", x.depth(v), m.depth(v));
                break;
            }
            case 1: {
                int k = dice.nextBoolean() ? some(1, 12) : some(1, 240), many = some(1, 11);
                is("slip(" + k + ", " + many + ")", x.slip(k, many), m.slip(k, many));
                break;
            }
            case 2: {
                int time = some(0, 239);
                is("wake(" + time + ")", x.wake(time), m.wake(time));
                break;
            }
            case 3: {
                int holder = some(0, 7), number = dice.nextBoolean() ? some(1, 30) : some(1, 400);
                is("ticket(" + holder + ", " + number + ")", x.ticket(holder, number), m.ticket(holder, number));
                break;
            }
            case 4: {
                int s = some(0, 3);
                is("read(" + s + ")", x.read(s), m.read(s));
                break;
            }
            default: {
                int what = some(0, 2);
                is("back(" + what + ")", x.back(what), m.back(what));
                break;
            }
        }
    }

    private void waves() {
        int time = some(0, 239), what = some(0, 2), number = dice.nextBoolean() ? some(1, 60) : some(1, 400);
        switch (dice.nextInt(8)) {
            case 0: is("high(" + time + ")", x.high(time), m.high(time)); break;
            case 1: is("wave(" + time + ", " + what + ")", x.wave(time, what), m.wave(time, what)); break;
            case 2: is("when(" + number + ")", x.when(number), m.when(number)); break;
            case 3: {
                int to = some(0, 239);
                is("called(" + time + ", " + to + ")", x.called(time, to), m.called(time, to));
                break;
            }
            case 4: is("brings(" + number + ")", x.brings(number), m.brings(number)); break;
            case 5: {
                int holder = some(0, 7);
                is("claims(" + holder + ")", x.claims(holder), m.claims(holder));
                break;
            }
            case 6: {
                int ticket = some(0, 12);
                is("good(" + ticket + ")", x.good(ticket), m.good(ticket));
                break;
            }
            default: {
                int a = some(0, 5), b = some(0, 5), w = some(0, 1);
                String call = "agree(" + a + ", " + b + ", " + time + ", " + w + ")";
                is(call, x.agree(a, b, time, w), m.agree(a, b, time, w));
                break;
            }
        }
    }

    private void plans() {
        int n = some(1, 9), what = some(0, 1);
        switch (dice.nextInt(4)) {
            case 0: is("run(" + n + ", " + what + ")", x.run(n, what), m.run(n, what)); break;
            case 1: {
                int many = dice.nextBoolean() ? some(0, 60) : some(0, 240);
                is("bar(" + many + ")", x.bar(many), m.bar(many));
                break;
            }
            case 2: {
                int holder = some(0, 7);
                is("earn(" + holder + ", " + what + ")", x.earn(holder, what), m.earn(holder, what));
                break;
            }
            default: {
                int seed = dice.nextInt(), lots = some(1, 99);
                String call = "storm(" + seed + ", " + lots + ", " + what + ")";
                is(call, x.storm(seed, lots, what), m.storm(seed, lots, what));
                break;
            }
        }
    }

    private void heardOnes() {
        switch (dice.nextInt(7)) {
            case 0: {
                int time = dice.nextBoolean() ? some(0, 40) : some(0, 239);
                // Mostly what is called there, or near it, so that some answers are left.
                int near = Math.max(0, m.wave(time, 1)) + (dice.nextInt(3) == 0 ? dice.nextInt(5) - 2 : 0);
                int number = dice.nextInt(12) == 0 ? some(0, 400) : Math.max(0, near);
                is("heard(" + time + ", " + number + ")", x.heard(time, number), m.heard(time, number));
                break;
            }
            case 1:
                if (dice.nextInt(3) == 0) is("forget()", x.forget(), m.forget());
                break;
            case 2: {
                int many = some(1, 11);
                is("skipped(" + many + ")", x.skipped(many), m.skipped(many));
                break;
            }
            case 3: {
                int i = dice.nextBoolean() ? -1 : some(-1, 239);
                is("voids(" + i + ")", x.voids(i), m.voids(i));
                break;
            }
            case 4: {
                int swell = some(0, 5), i = dice.nextBoolean() ? some(-1, 2) : some(-1, 97);
                is("often(" + swell + ", " + i + ")", x.often(swell, i), m.often(swell, i));
                break;
            }
            case 5: {
                int c = some(0, 16), number = some(1, 12), what = some(0, 1);
                String call = "hoarse(" + c + ", " + number + ", " + what + ")";
                is(call, x.hoarse(c, number, what), m.hoarse(c, number, what));
                break;
            }
            default:
                if (dice.nextInt(8) == 0) is("digest()", x.digest(), m.digest());
                break;
        }
    }

    private void sheets() {
        int s = some(0, 3), i = dice.nextBoolean() ? some(0, 9) : some(-1, 48);
        int form = dice.nextInt(4) == 0 ? some(0, 2) : 1 + s % 2;
        switch (dice.nextInt(10)) {
            case 0: {
                int n = some(0, 48);
                is("sheet(" + s + ", " + form + ", " + n + ")", x.sheet(s, form, n), m.sheet(s, form, n));
                break;
            }
            case 1:
                if (dice.nextInt(4) == 0) is("lose(" + s + ")", x.lose(s), m.lose(s));
                break;
            case 2: case 3: case 4: {
                int v = dice.nextInt(6) == 0 ? dice.nextInt() : dice.nextInt(12);
                String call = "put(" + s + ", " + form + ", " + i + ", " + v + ")";
                is(call, x.put(s, form, i, v), m.put(s, form, i, v));
                break;
            }
            case 5: case 6:
                is("get(" + s + ", " + form + ", " + i + ")", x.get(s, form, i), m.get(s, form, i));
                break;
            case 7: {
                int t = dice.nextBoolean() ? s : some(0, 3), j = some(0, 12), n = some(0, 12);
                String call = "copy(" + s + ", " + i + ", " + t + ", " + j + ", " + n + ")";
                is(call, x.copy(s, i, t, j, n), m.copy(s, i, t, j, n));
                break;
            }
            case 8: {
                int time = some(0, 239);
                is("write(" + time + ", " + s + ")", x.write(time, s), m.write(time, s));
                break;
            }
            default: {
                int what = some(0, 8);
                is("count(" + what + ")", x.count(what), m.count(what));
                break;
            }
        }
    }
}
