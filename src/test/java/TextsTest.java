import java.util.regex.Matcher;
import java.util.regex.Pattern;

/** The FAULT of a text, against a pattern of what may stand: each byte at each place, and each end. */
public final class TextsTest {
    private static final int NONE = -1, BAD = -2, FULL = -4;
    private static final String ONE_SWELL = "[1-9](0[2-9]|[1-9][0-9])[0-9][0-9]";
    private static final String ONE_FIND = "(0[1-9]|[1-9][0-9])[0-9][0-9][0-9]";
    private static final Pattern[] WELL = {
        Pattern.compile(ONE_SWELL + "(;" + ONE_SWELL + "){0,5}", Pattern.DOTALL),
        Pattern.compile(ONE_FIND + "(;" + ONE_FIND + "){0,7}", Pattern.DOTALL),
    };
    private static final String[] FILLED = {
        "10200;99999;12901;91010;50338;70409",
        "01000;99999;10100;20019;91902;07068;33332;50505",
    };
    private static final Due DUE = new Due();

    private TextsTest() {
    }

    public static void main(String[] args) {
        for (int text = 0; text < 2; text++) {
            eachEnd(text);
            eachByteAtEachPlace(text);
            eachPairOfFigures(text);
            noneTooMany(text);
            ofAFaultIsAsIfEmpty(text);
            wellAgain(text);
        }
        DUE.end();
    }

    /** The first place with which no text can go on; the end of one that is not ended. */
    private static int faultOf(int text, String bytes) {
        if (bytes.isEmpty()) {
            return NONE;
        }
        for (int end = 1; end <= bytes.length(); end++) {
            Matcher m = WELL[text].matcher(bytes.substring(0, end));
            boolean whole = m.matches();
            if (!whole && !m.hitEnd()) {
                return end - 1;
            }
            if (whole && end == bytes.length()) {
                return NONE;
            }
        }
        return bytes.length();
    }

    private static NumberedWaves typed(int text, String bytes) {
        NumberedWaves x = new NumberedWaves();
        Due.typeAll(x, text, bytes);
        return x;
    }

    private static void looksAt(int text, String bytes) {
        NumberedWaves x = typed(text, bytes);
        int want = faultOf(text, bytes);
        DUE.is("fault(" + text + ") of \"" + bytes + "\"", x.fault(text), want);
        int entries = want == NONE ? (bytes.length() + 1) / 6 : 0;
        DUE.is("count(" + text + ") of \"" + bytes + "\"", x.count(text), entries);
        DUE.is("count(2 and " + text + ") of \"" + bytes + "\"", x.count(2 + text), bytes.length());
        DUE.is("the other text of \"" + bytes + "\"", x.fault(1 - text), NONE);
    }

    private static void eachEnd(int text) {
        for (int end = 0; end <= FILLED[text].length(); end++) {
            looksAt(text, FILLED[text].substring(0, end));
        }
        // The same by undo, from the end on.
        NumberedWaves x = typed(text, FILLED[text]);
        for (int left = FILLED[text].length() - 1; left >= 0; left--) {
            DUE.is("undo(" + text + ")", x.undo(text), left);
            DUE.is("fault(" + text + ") of " + left + " left", x.fault(text), left % 6 == 5 || left == 0 ? NONE : left);
        }
    }

    private static void eachByteAtEachPlace(int text) {
        for (int place = 0; place < FILLED[text].length(); place++) {
            for (int b = 0; b < 256; b++) {
                StringBuilder bytes = new StringBuilder(FILLED[text]);
                bytes.setCharAt(place, (char) b);
                looksAt(text, bytes.toString());
                // The last one typed, too, with nothing behind it.
                looksAt(text, bytes.substring(0, place + 1));
            }
        }
    }

    /** Each PERIOD, TIME, MODULUS, REST of two figures, with what it says. */
    private static void eachPairOfFigures(int text) {
        for (int v = 0; v < 100; v++) {
            String two = "" + v / 10 + v % 10;
            for (int place = text == 0 ? 1 : 0; place <= (text == 0 ? 3 : 2); place += 2) {
                String bytes = FILLED[text].substring(0, 6 + place) + two + FILLED[text].substring(8 + place, 11);
                looksAt(text, bytes);
                NumberedWaves x = typed(text, bytes);
                int what = text == 0 ? (place + 1) / 2 : place / 2;
                int least = text == 0 && what == 1 ? 2 : text == 1 && what == 0 ? 1 : 0;
                int got = text == 0 ? x.swell(1, what) : x.find(1, what);
                DUE.is("part " + what + " of \"" + bytes + "\"", got, v >= least ? v : BAD);
            }
        }
        for (int v = 0; v < 10; v++) {
            String bytes = text == 0 ? v + "0200" : "0100" + v;
            NumberedWaves x = typed(text, bytes);
            int got = text == 0 ? x.swell(0, 0) : x.find(0, 2);
            DUE.is("HEIGHT or VALUE of \"" + bytes + "\"", got, text == 0 && v == 0 ? BAD : v);
        }
    }

    /** 35 bytes are just 6 SWELLS and 47 just 8 FINDS, so that one too many is FULL ahead of any FAULT. */
    private static void noneTooMany(int text) {
        int most = text == 0 ? 6 : 8;
        for (int b : new int[] {';', '1', 'x', 0, 255}) {
            NumberedWaves x = typed(text, FILLED[text]);
            DUE.is("type(" + text + ", " + b + ") behind the last", x.type(text, b), FULL);
            DUE.is("fault(" + text + ")", x.fault(text), NONE);
            DUE.is("count(" + text + ")", x.count(text), most);
            DUE.is("count(2 and " + text + ")", x.count(2 + text), 6 * most - 1);
        }
        NumberedWaves x = typed(text, FILLED[text]);
        for (int what = 0; what < 3; what++) {
            DUE.isTrue("the last one is there", (text == 0 ? x.swell(5, what) : x.find(7, what)) != BAD);
            DUE.is("one too many", text == 0 ? x.swell(6, what) : x.find(8, what), BAD);
        }
    }

    /** "With a FAULT a text is as if it was empty": all answers but those of its bytes. */
    private static void ofAFaultIsAsIfEmpty(int text) {
        String[] faulty = {"1", "x", "00", "10200;", "10200;10200;1010", "10200;99999;x"};
        for (String bytes : faulty) {
            String with = text == 0 ? bytes : "01007;" + bytes;
            NumberedWaves x = Due.coast(text == 0 ? with : "20300;30500", text == 1 ? with : "01005;02003");
            NumberedWaves y = Due.coast(text == 0 ? "" : "20300;30500", text == 1 ? "" : "01005;02003");
            for (NumberedWaves z : new NumberedWaves[] {x, y}) {
                z.ticket(0, 1);
                z.heard(15, 4);
                z.slip(2, 1);
            }
            sameBut(text, with, x, y);
        }
    }

    private static void sameBut(int text, String bytes, NumberedWaves x, NumberedWaves y) {
        String of = " with \"" + bytes + "\"";
        DUE.isTrue("a FAULT" + of, x.fault(text) != NONE);
        for (int what : new int[] {0, 1, 4, 6}) {
            DUE.is("count(" + what + ")" + of, x.count(what), y.count(what));
        }
        for (int time = 0; time < 20; time++) {
            DUE.is("high(" + time + ")" + of, x.high(time), y.high(time));
            for (int what = 0; what < 3; what++) {
                DUE.is("wave(" + time + ", " + what + ")" + of, x.wave(time, what), y.wave(time, what));
            }
        }
        for (int number = 1; number < 10; number++) {
            DUE.is("when(" + number + ")" + of, x.when(number), y.when(number));
            DUE.is("brings(" + number + ")" + of, x.brings(number), y.brings(number));
        }
        for (int what = 0; what < 2; what++) {
            DUE.is("agree(0, 1, 0, " + what + ")" + of, x.agree(0, 1, 0, what), y.agree(0, 1, 0, what));
            DUE.is("run(2, " + what + ")" + of, x.run(2, what), y.run(2, what));
            DUE.is("earn(0, " + what + ")" + of, x.earn(0, what), y.earn(0, what));
            DUE.is("hoarse(3, 2, " + what + ")" + of, x.hoarse(3, 2, what), y.hoarse(3, 2, what));
            DUE.is("storm(1, 50, " + what + ")" + of, x.storm(1, 50, what), y.storm(1, 50, what));
        }
        DUE.is("claims(0)" + of, x.claims(0), y.claims(0));
        DUE.is("good(0)" + of, x.good(0), y.good(0));
        DUE.is("called(0, 239)" + of, x.called(0, 239), y.called(0, 239));
        DUE.is("bar(0)" + of, x.bar(0), y.bar(0));
        DUE.is("skipped(1)" + of, x.skipped(1), y.skipped(1));
        DUE.is("voids(-1)" + of, x.voids(-1), y.voids(-1));
        DUE.is("often(0, -1)" + of, x.often(0, -1), y.often(0, -1));
        DUE.is("swell(0, 0)" + of, x.swell(0, 0), y.swell(0, 0));
        DUE.is("find(0, 0)" + of, x.find(0, 0), y.find(0, 0));
    }

    /** A FAULT is gone with the byte that it was; asked in between, so that nothing old is kept. */
    private static void wellAgain(int text) {
        NumberedWaves x = Due.coast("20300", "01005");
        DUE.is("high(3)", x.high(3), 2);
        DUE.is("storm(0, 1, 0)", x.storm(0, 1, 0), 5);
        x.type(text, 'x');
        DUE.is("high(3) behind a FAULT in " + text, x.high(3), text == 0 ? 0 : 2);
        DUE.is("storm(0, 1, 0) behind a FAULT in " + text, x.storm(0, 1, 0), 0);
        x.undo(text);
        DUE.is("high(3), well again", x.high(3), 2);
        DUE.is("storm(0, 1, 0), well again", x.storm(0, 1, 0), 5);
        Due.typeAll(x, text, text == 0 ? ";10303" : ";01004");
        DUE.is("high(3), one more", x.high(3), text == 0 ? 3 : 2);
        DUE.is("storm(0, 1, 0), one more", x.storm(0, 1, 0), text == 0 ? 5 : 9);
        x.wipe(text);
        DUE.is("high(3), wiped", x.high(3), text == 0 ? 0 : 2);
        DUE.is("storm(0, 1, 0), wiped", x.storm(0, 1, 0), 0);
    }
}
