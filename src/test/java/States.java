import java.util.ArrayList;
import java.util.List;

/** Objects in several states, and all that can be asked of one, so that a change of any kind shows. */
enum States {
    NEW, ORDINARY, FILLED, FAULTY;

    /** What was told as much as can be: 6 SWELLS, 8 FINDS, 12 SLIPS, 8 WAKES, 12 TICKETS, 8 HEARD, 48 items. */
    private static final String SIX = "20400;30601;10702;40503;50900;19999";
    private static final String EIGHT = "01001;02013;03002;05014;07065;11009;99999;13120";

    NumberedWaves make() {
        return switch (this) {
            case NEW -> new NumberedWaves();
            case ORDINARY -> ordinary();
            case FILLED -> filled();
            case FAULTY -> faulty();
        };
    }

    /** count() 8 of an object in this state. */
    int latestFinding() {
        return this == NEW ? 0 : this == FAULTY ? 1 : 2;
    }

    private static NumberedWaves ordinary() {
        NumberedWaves x = Due.coast("20400;30600;10703", "01003;02014;05002");
        tell(x, 2);
        x.heard(12, 7);
        x.depth(2);
        x.sheet(0, 2, 5);
        x.put(0, 2, 4, 77);
        x.sheet(1, 1, 3);
        x.put(1, 1, 0, -300);
        x.sheet(2, 0, 0);
        x.put(2, 0, 0, 1);
        return x;
    }

    private static NumberedWaves filled() {
        NumberedWaves x = Due.coast(SIX, EIGHT);
        tell(x, 12);
        for (int i = 0; i < 8; i++) {
            x.heard(10 * i, x.wave(10 * i, 1));
        }
        x.depth(3);
        for (int s = 0; s < 4; s++) {
            x.sheet(s, s % 3, 48);
            x.put(s, s % 3, 47, 40 + s);
            x.put(s, s % 3, 0, 7 - s);
            x.put(s, s % 3, 1, 30 + s);
        }
        x.put(0, 0, 48, 1);
        return x;
    }

    /** Texts with a FAULT, and SHEETS that have been lost. */
    private static NumberedWaves faulty() {
        NumberedWaves x = Due.coast("20400;30x", "01003;00");
        tell(x, 1);
        x.heard(3, 0);
        for (int s = 0; s < 4; s++) {
            x.sheet(s, s % 3, 9);
            x.lose(s);
        }
        x.lose(0);
        return x;
    }

    private static void tell(NumberedWaves x, int many) {
        for (int i = 0; i < many; i++) {
            x.slip(1 + 3 * i, 1 + i % 11);
            x.ticket(i % 8, 2 + 4 * (i % 9));
            if (i < 8) {
                x.wake(9 + 12 * i);
            }
        }
    }

    /** Answers of some 300 calls, the last of which take the object apart; count() 8 is not among them. */
    static List<Long> allAnswers(NumberedWaves x) {
        List<Long> all = new ArrayList<>();
        askTexts(x, all);
        askWaves(x, all);
        askPlans(x, all);
        all.add(x.digest());
        askSheets(x, all);
        takeApart(x, all);
        return all;
    }

    private static void askTexts(NumberedWaves x, List<Long> all) {
        for (int what = 0; what < 8; what++) {
            all.add((long) x.count(what));
        }
        for (int i = 0; i < 24; i++) {
            all.add((long) x.find(i / 3, i % 3));
            if (i < 18) {
                all.add((long) x.swell(i / 3, i % 3));
            }
        }
    }

    private static void askWaves(NumberedWaves x, List<Long> all) {
        for (int time = 0; time < 240; time += 1 + time / 4) {
            all.add((long) x.wave(time, 0));
            all.add((long) x.wave(time, 1));
        }
        for (int holder = 0; holder < 8; holder++) {
            all.add((long) x.claims(holder));
        }
        for (int ticket = 0; ticket < 12; ticket++) {
            all.add((long) x.good(ticket));
        }
    }

    private static void askPlans(NumberedWaves x, List<Long> all) {
        all.add((long) x.earn(2, 1));
        for (int many = 1; many <= 11; many += 5) {
            all.add((long) x.skipped(many));
        }
        for (int i = -1; i < 2; i++) {
            all.add((long) x.voids(i));
            all.add((long) x.often(1, i));
        }
        all.add(x.hoarse(5, 7, 0));
        all.add((long) x.storm(-9, 99, 0));
    }

    private static void askSheets(NumberedWaves x, List<Long> all) {
        for (int s = 0; s < 4; s++) {
            for (int form = 0; form < 3; form++) {
                for (int i = 0; i < 6; i++) {
                    all.add((long) x.get(s, form, i < 5 ? i : 47));
                }
            }
            all.add((long) x.lose(s));
        }
    }

    private static void takeApart(NumberedWaves x, List<Long> all) {
        all.add((long) x.depth(0));
        for (int what = 0; what < 3; what++) {
            int left = 1;
            for (int i = 0; i < 13 && left > 0; i++) {
                left = x.back(what);
                all.add((long) left);
            }
        }
        all.add((long) x.forget());
        for (int text = 0; text < 2; text++) {
            all.add((long) x.fault(text));
            all.add((long) x.undo(text));
            all.add((long) x.fault(text));
            all.add((long) x.wipe(text));
        }
    }
}
