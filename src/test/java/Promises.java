/** Each promise of the document by ordinary inputs, its edges and wrong inputs, reckoned by hand. */
public final class Promises {
    private static final int UNKNOWN = -1, OUTSIDE = -2, STATE = -3, FULL = -4, NONE = -9;
    private static final int LEAST = Integer.MIN_VALUE, MOST = Integer.MAX_VALUE;

    // SET 3 PLAIN here; ADD 4 WIDOW here; NOT PLAIN 3 hours off; ECHO OLD 2 hours off; ADD 2 TWICE here.
    private static final String FIVE = "I2P2030P2141P5200P0303P2122";

    private static int wrong = 0;
    private static int promise = 0;

    private static void due(String call, long got, long want) {
        if (got != want) {
            wrong++;
            System.out.println("promise " + promise + ": " + call + " answered " + got + ", due is " + want);
        }
    }

    private static void tell(OneSentence x, String text) {
        x.wipe();
        for (int i = 0; i < text.length(); i++) {
            x.write(text.charAt(i));
        }
    }

    private static OneSentence on(String text) {
        OneSentence x = new OneSentence();
        tell(x, text);
        due("island() of " + text, x.island(), (text.length() - 2) / 5);
        return x;
    }

    /** All that count tells, in a row, so that "nothing is changed" can be seen. */
    private static String told(OneSentence x) {
        StringBuilder told = new StringBuilder();
        for (int what = 0; what <= 8; what++) {
            told.append(x.count(what)).append(' ');
        }
        for (int p = 0; p < 6; p++) {
            for (int what = 0; what <= 6; what++) {
                told.append(x.person(p, what)).append(' ');
            }
        }
        return told.toString();
    }

    private static void same(String call, String before, OneSentence x) {
        String now = told(x);
        if (!before.equals(now)) {
            wrong++;
            System.out.println("promise " + promise + ": " + call + " changed " + before + " to " + now);
        }
    }

    public static void main(String[] args) {
        promise = 1; aNewObject();
        promise = 2; write();
        promise = 3; wipe();
        promise = 4; fault();
        promise = 5; island();
        promise = 6; person();
        promise = 7; fetch();
        promise = 8; send();
        promise = 9; say(); echo(); twice(); widow(); old();
        promise = 10; name();
        promise = 11; undo();
        promise = 12; comesTo();
        promise = 13; fewest();
        promise = 14; can();
        promise = 15; toFetch();
        promise = 16; needed();
        promise = 17; naming();
        promise = 18; spoken();
        promise = 19; quarrel();
        promise = 20; share();
        promise = 21; rests();
        promise = 22; chance();
        promise = 23; seed();
        promise = 24; nights();
        promise = 25; keep();
        promise = 26; again();
        promise = 27; count();
        System.out.println(wrong == 0 ? "all answers are as due" : wrong + " answers are not as due");
        if (wrong != 0) {
            System.exit(1);
        }
    }

    private static void aNewObject() {
        OneSentence x = new OneSentence();
        int[] counts = {0, 0, 0, 0, 0, 0, 0, NONE, 0};
        for (int what = 0; what < counts.length; what++) {
            due("count(" + what + ")", x.count(what), counts[what]);
        }
        due("person(0, 0)", x.person(0, 0), UNKNOWN);
        due("undo()", x.undo(), STATE);
        due("again(0)", x.again(0), STATE);
        due("again(1)", x.again(1), STATE);
        due("can(3)", x.can(3), 1);
        due("fault()", x.fault(), 0);
        due("island()", x.island(), STATE);
        due("seed(7)", x.seed(7), 0);
        OneSentence other = on(FIVE);
        due("count(1) of one", x.count(1), 0);
        due("count(1) of another", other.count(1), 5);
    }

    private static void write() {
        OneSentence x = new OneSentence();
        due("write(0)", x.write(0), 1);
        due("write(255)", x.write(255), 2);
        for (int letter : new int[] {256, -1, LEAST, MOST}) {
            due("write(" + letter + ")", x.write(letter), OUTSIDE);
        }
        due("count(0)", x.count(0), 2);
        for (int i = 3; i <= 40; i++) {
            due("write('P')", x.write('P'), i);
        }
        due("write('P') of the 41st", x.write('P'), FULL);
        due("write(256) of the 41st", x.write(256), OUTSIDE);
        due("count(0)", x.count(0), 40);
    }

    private static void wipe() {
        OneSentence x = on(FIVE);
        due("wipe()", x.wipe(), 27);
        due("wipe() again", x.wipe(), 0);
        due("count(0)", x.count(0), 0);
        due("fault()", x.fault(), 0);
        due("count(1)", x.count(1), 5);
        due("write(73)", x.write(73), 1);
        due("fault() of I", x.fault(), 1);
        OneSentence full = new OneSentence();
        tell(full, "I5P9999P9999P9999P9999P9999P9999P9999P9999");
        due("wipe() of 40", full.wipe(), 40);
        due("write(1)", full.write(1), 1);
    }

    private static void fault() {
        String[] texts = {"", "i", "I", "IP", "I/", "I:", "I9", "I0", "I0I", "I0P", "I0Px", "I0P9", "I0P94", "I0P9/",
            "I0P93", "I0P93:", "I0P939", "I0P9394", "I0P9393", "I0P0000", "I0P0000P", "I0P0000X", "I0P0000P0",
            "I0P0000P00000", "I0P0000P0000P0000P0000P0000P0000", "I0P0000P0000P0000P0000P0000P0000P",
            "I0P0000P0000P0000P0000P0000P0000Q", "I0P0000P0000P0000P0000P0000P0000P0000P00",
            "I0P0000P0000P0000P0000P0000P000", "I0 ", "I0P00-0", "X5P0000", "I55"};
        int[] faults = {0, 0, 1, 1, 1, 1, NONE, NONE, 2, 3, 3, 4, 4, 4,
            5, 5, 6, 6, NONE, NONE, 8, 7, 9,
            12, NONE, 32,
            32, 32,
            31, 2, 5, 0, 2};
        for (int i = 0; i < texts.length; i++) {
            OneSentence x = new OneSentence();
            tell(x, texts[i]);
            due("fault() of " + texts[i], x.fault(), faults[i]);
            due("island() of " + texts[i], x.island(), faults[i] == NONE ? (texts[i].length() - 2) / 5 : STATE);
        }
        OneSentence high = new OneSentence();
        high.write('I');
        high.write('0' + 128);
        due("fault() of a letter above 127", high.fault(), 1);
    }

    private static void island() {
        OneSentence x = on(FIVE);
        due("count(0)", x.count(0), 27);
        x.say(0);
        x.fetch(2);
        x.name(0, 1, 9);
        x.keep(0);
        x.keep(1);
        x.seed(77);
        x.write('!');
        String before = told(x);
        due("island() with a fault", x.island(), STATE);
        same("island() with a fault", before, x);
        due("again(0)", x.again(0), 4);
        x.say(4);
        tell(x, FIVE);
        due("island()", x.island(), 5);
        OneSentence fresh = on(FIVE);
        same("island()", told(fresh), x);
        due("undo()", x.undo(), STATE);
        due("again(0)", x.again(0), STATE);
        due("again(1)", x.again(1), STATE);
        due("seed(0)", x.seed(0), 77);
        x.fetch(3);
        due("say(3): no ECHO of what was said before", x.say(3), 0);
        tell(x, "I7");
        due("island() of nobody", x.island(), 0);
        due("count(2)", x.count(2), 7);
        due("count(5)", x.count(5), 0);
        due("person(0, 0)", x.person(0, 0), UNKNOWN);
        due("count(0)", x.count(0), 2);
    }

    private static void person() {
        OneSentence x = on(FIVE);
        int[][] wants = {{2, 0, 3, 0, 1, 1, 0}, {2, 1, 4, 1, 1, 0, 0}, {5, 2, 0, 0, 0, 0, 0}, {0, 3, 0, 3, 0, 0, 0},
            {2, 1, 2, 2, 1, 1, 0}};
        for (int p = 0; p < wants.length; p++) {
            for (int what = 0; what <= 6; what++) {
                due("person(" + p + ", " + what + ")", x.person(p, what), wants[p][what]);
            }
        }
        for (int p : new int[] {5, 6, 7, 32, -1, LEAST, MOST}) {
            due("person(" + p + ", 0)", x.person(p, 0), UNKNOWN);
            due("person(" + p + ", 7)", x.person(p, 7), UNKNOWN);
        }
        for (int what : new int[] {7, -1, LEAST, MOST}) {
            due("person(0, " + what + ")", x.person(0, what), OUTSIDE);
        }
        x.say(4);
        x.say(4);
        due("person(4, 6)", x.person(4, 6), 2);
        due("person(1, 5)", x.person(1, 5), 1);
        x.name(4, 0, 7);
        due("person(4, 1)", x.person(4, 1), 0);
        due("person(4, 2)", x.person(4, 2), 7);
        due("person(4, 3)", x.person(4, 3), 2);
        x.fetch(2);
        due("person(2, 0)", x.person(2, 0), 5);
        due("person(2, 4)", x.person(2, 4), 1);
        due("person(2, 5)", x.person(2, 5), 1);
    }

    private static void fetch() {
        OneSentence x = on(FIVE);
        due("fetch(2)", x.fetch(2), 3);
        due("fetch(3)", x.fetch(3), 5);
        String before = told(x);
        due("fetch(3) again", x.fetch(3), STATE);
        due("fetch(0)", x.fetch(0), STATE);
        due("fetch(5)", x.fetch(5), UNKNOWN);
        due("fetch(-1)", x.fetch(-1), UNKNOWN);
        due("fetch(34)", x.fetch(34), UNKNOWN);
        same("a fetch that is refused", before, x);
        due("count(5)", x.count(5), 31);
        due("count(4)", x.count(4), 5);
        due("count(7)", x.count(7), NONE);
        due("count(8)", x.count(8), 2);
        x.send(2);
        due("fetch(2) once more", x.fetch(2), 8);
        OneSentence far = on("I0P9000");
        due("fetch(0) from 9 to 0", far.fetch(0), 9);
    }

    private static void send() {
        OneSentence x = on(FIVE);
        String before = told(x);
        due("send(0) who is at home", x.send(0), STATE);
        due("send(2) who is not there", x.send(2), STATE);
        due("send(5)", x.send(5), UNKNOWN);
        due("send(-1)", x.send(-1), UNKNOWN);
        due("send(33)", x.send(33), UNKNOWN);
        same("a send that is refused", before, x);
        x.fetch(2);
        x.fetch(3);
        due("send(2)", x.send(2), 4);
        due("send(3)", x.send(3), 3);
        due("send(3) again", x.send(3), STATE);
        due("count(4)", x.count(4), 5);
        due("count(5)", x.count(5), 19);
        due("count(8)", x.count(8), 4);
        x.fetch(2);
        x.say(2);
        x.send(2);
        due("count(7) of one who went home", x.count(7), 2);
        due("person(1, 5)", x.person(1, 5), 1);
    }

    private static void say() {
        OneSentence x = on(FIVE);
        String before = told(x);
        due("say(1)", x.say(1), STATE);
        due("say(2)", x.say(2), STATE);
        due("say(5)", x.say(5), UNKNOWN);
        due("say(-1)", x.say(-1), UNKNOWN);
        due("say(32)", x.say(32), UNKNOWN);
        same("a say that is refused", before, x);
        due("say(0)", x.say(0), 3);
        due("count(4)", x.count(4), 1);
        due("count(7)", x.count(7), 0);
        due("person(0, 6)", x.person(0, 6), 1);
        due("say(4)", x.say(4), 7);
        due("say(4)", x.say(4), 1);
        due("say(1)", x.say(1), 5);
        due("count(4)", x.count(4), 4);
        x.fetch(2);
        due("say(2)", x.say(2), 4);
        due("say(2)", x.say(2), 5);
        due("count(3)", x.count(3), 5);
        OneSentence tens = on("I0P0190P0150");
        due("say(0)", tens.say(0), 9);
        due("say(0)", tens.say(0), 8);
        due("say(1)", tens.say(1), 3);
        OneSentence ten = on("I0P0150");
        due("say(0)", ten.say(0), 5);
        due("say(0): 10 is 0", ten.say(0), 0);
    }

    private static void echo() {
        OneSentence x = on("I0P0050P0300P0310");
        due("say(1) of nothing", x.say(1), 0);
        due("say(2) of nothing but an ECHO", x.say(2), 0);
        due("say(0)", x.say(0), 5);
        x.name(0, 1, 1);
        due("say(1): SET 5, as it was", x.say(1), 5);
        due("say(0)", x.say(0), 6);
        x.name(0, 2, 0);
        due("say(1): ADD 1, as it was", x.say(1), 7);
        due("say(2): not the ECHO before it", x.say(2), 8);
        x.name(0, 3, 0);
        due("say(0): an ECHO now", x.say(0), 9);
        due("say(1)", x.say(1), 0);
        x.name(1, 2, 7);
        due("say(1): NOT", x.say(1), 9);
        due("say(0): an ECHO of NOT", x.say(0), 0);
    }

    private static void twice() {
        OneSentence x = on("I0P0130P0302P0142P0300P0202P0072");
        due("say(1) of nothing", x.say(1), 0);
        due("say(0)", x.say(0), 3);
        due("say(1): an ECHO two times", x.say(1), 9);
        due("say(2): ADD 4 two times", x.say(2), 7);
        due("say(3): ADD 4 once", x.say(3), 1);
        due("say(1): ADD 4 two times", x.say(1), 9);
        due("say(4): NOT two times", x.say(4), 9);
        due("say(3): NOT once", x.say(3), 0);
        due("say(5): SET two times", x.say(5), 7);
        due("count(4): an hour each", x.count(4), 9);
        due("say(0): SET two times is SET", on("I0P0012").say(0), 1);
        due("say(0): ADD two times", on("I0P0112").say(0), 2);
        due("person(1, 6)", x.person(1, 6), 3);
    }

    private static void widow() {
        OneSentence x = on("I0P0111P0111P0110");
        due("count(6)", x.count(6), 4);
        due("say(0) before all", x.say(0), STATE);
        due("say(2)", x.say(2), 1);
        due("count(6)", x.count(6), 7);
        due("say(0)", x.say(0), 2);
        due("count(6)", x.count(6), 6);
        due("say(0) behind herself", x.say(0), STATE);
        due("say(1) behind the other one", x.say(1), 3);
        due("say(0)", x.say(0), 4);
    }

    private static void old() {
        OneSentence x = on("I0P0113P0110P4113");
        due("say(0)", x.say(0), 1);
        due("say(0) again", x.say(0), STATE);
        due("say(1)", x.say(1), 2);
        due("say(0) much later", x.say(0), STATE);
        x.name(0, 0, 9);
        due("say(0) with another sentence", x.say(0), STATE);
        x.fetch(2);
        due("say(2)", x.say(2), 3);
        x.send(2);
        x.fetch(2);
        due("say(2) who was at home since", x.say(2), STATE);
    }

    private static void name() {
        OneSentence x = on(FIVE);
        String before = told(x);
        due("name(5, 0, 0)", x.name(5, 0, 0), UNKNOWN);
        due("name(-1, 4, 0)", x.name(-1, 4, 0), UNKNOWN);
        due("name(0, 4, 0)", x.name(0, 4, 0), OUTSIDE);
        due("name(0, -1, 0)", x.name(0, -1, 0), OUTSIDE);
        due("name(0, 0, 10)", x.name(0, 0, 10), OUTSIDE);
        due("name(0, 0, -1)", x.name(0, 0, -1), OUTSIDE);
        due("name(0, 1, -7)", x.name(0, 1, -7), OUTSIDE);
        due("name(0, LEAST, MOST)", x.name(0, LEAST, MOST), OUTSIDE);
        due("name(0, 0, 3)", x.name(0, 0, 3), STATE);
        due("name(1, 1, 4)", x.name(1, 1, 4), STATE);
        same("a name that is refused", before, x);
        due("name(0, 0, 4)", x.name(0, 0, 4), 3);
        due("name(0, 3, 9)", x.name(0, 3, 9), 4);
        due("name(0, 3, 8)", x.name(0, 3, 8), 39);
        due("name(2, 0, 0) of one who is away", x.name(2, 0, 0), 20);
        due("count(4)", x.count(4), 0);
        due("count(7)", x.count(7), NONE);
        due("count(8)", x.count(8), 4);
        x.name(4, 1, 3);
        due("say(4): TWICE as before", x.say(4), 6);
    }

    private static void undo() {
        OneSentence x = on(FIVE);
        String[] before = new String[10];
        int done = 0;
        before[done++] = told(x); x.say(0);
        before[done++] = told(x); x.say(1);
        before[done++] = told(x); x.fetch(2);
        before[done++] = told(x); x.fetch(3);
        before[done++] = told(x); x.say(3);
        before[done++] = told(x); x.send(3);
        before[done++] = told(x); x.name(2, 0, 9);
        before[done++] = told(x); x.say(2);
        x.say(5);
        x.name(0, 0, 3);
        for (int left = done - 1; left >= 0; left--) {
            due("undo()", x.undo(), left);
            same("undo() to " + left, before[left], x);
        }
        due("undo() of none", x.undo(), STATE);
        same("undo() of none", before[0], x);
        x.fetch(3);
        due("say(3): what is undone has no ECHO", x.say(3), 0);

        OneSentence named = on(FIVE);
        named.name(0, 2, 2);
        named.undo();
        due("name(0, 0, 3): it is that again", named.name(0, 0, 3), STATE);

        OneSentence echo = on("I0P0110P0050P0300");
        echo.say(0);
        echo.say(1);
        echo.undo();
        due("say(2): an ECHO of ADD 1 again", echo.say(2), 2);
        theFirstIsForgotten();
    }

    private static void theFirstIsForgotten() {
        OneSentence x = on("I0P0110");
        for (int i = 1; i <= 33; i++) {
            due("say(0)", x.say(0), i % 10);
            due("count(8)", x.count(8), Math.min(i, 14));
        }
        for (int i = 1; i <= 14; i++) {
            due("undo()", x.undo(), 14 - i);
            due("count(3)", x.count(3), (33 - i) % 10);
            due("count(4)", x.count(4), 33 - i);
        }
        due("undo() of a forgotten one", x.undo(), STATE);
        x.say(0);
        x.say(0);
        due("undo()", x.undo(), 1);
        due("count(4)", x.count(4), 20);
    }

    private static void comesTo() {
        OneSentence x = on(FIVE);
        int[][] rows = {{1, 1, 3, NONE}, {2, 12, 7, NONE}, {1, 2, STATE, 0}, {3, 122, STATE, 2}, {2, 13, STATE, 1},
            {2, 9, STATE, 0}, {2, 19, STATE, 1}, {2, 16, STATE, 1}, {2, 10, STATE, 1}, {5, 12555, 9, NONE},
            {3, 121, 3, NONE}, {1, 0, STATE, 0}, {5, 99999, STATE, 0}, {5, 11111, 3, NONE}, {3, 11, STATE, 0}};
        String before = told(x);
        for (int[] row : rows) {
            due("comesTo(" + row[0] + ", " + row[1] + ", 0)", x.comesTo(row[0], row[1], 0), row[2]);
            due("comesTo(" + row[0] + ", " + row[1] + ", 1)", x.comesTo(row[0], row[1], 1), row[3]);
        }
        int[][] outside = {{0, 0, 0}, {6, 111111, 0}, {-1, 0, 0}, {LEAST, 1, 0}, {MOST, 1, 0}, {1, 10, 0}, {2, 100, 1},
            {5, 100000, 1}, {1, -1, 0}, {5, LEAST, 0}, {5, MOST, 0}, {1, 1, 2}, {1, 1, -1}, {1, 2, 5}};
        for (int[] row : outside) {
            due("comesTo(" + row[0] + ", " + row[1] + ", " + row[2] + ")", x.comesTo(row[0], row[1], row[2]), OUTSIDE);
        }
        same("comesTo", before, x);
        x.fetch(2);
        x.fetch(3);
        due("comesTo(2, 43, 0): an ECHO of nothing", x.comesTo(2, 43, 0), 9);
        due("comesTo(3, 343, 0)", x.comesTo(3, 343, 0), 9);
        due("comesTo(2, 44, 1): OLD", x.comesTo(2, 44, 1), 1);
        x.say(4);
        due("comesTo(1, 4, 0): goes on from an ECHO", x.comesTo(1, 4, 0), 6);
        due("comesTo(1, 2, 0): goes on from who spoke", x.comesTo(1, 2, 0), 8);
        x.say(3);
        due("comesTo(1, 4, 1): OLD", x.comesTo(1, 4, 1), 0);
    }

    private static void fewest() {
        OneSentence x = on(FIVE);
        int[] many = {0, 3, 3, 1, 1, 4, 4, 2, 2, NONE};
        int[] rows = {0, 125, 525, 1, 5, 1252, 5252, 12, 52, NONE};
        for (int w = 0; w <= 9; w++) {
            due("fewest(" + w + ", false)", x.fewest(w, false), many[w]);
            due("fewest(" + w + ", true)", x.fewest(w, true), rows[w]);
        }
        for (int w : new int[] {-1, 10, LEAST, MOST}) {
            due("fewest(" + w + ", true)", x.fewest(w, true), OUTSIDE);
        }
        x.say(0);
        due("fewest(3, true)", x.fewest(3, true), 0);
        due("fewest(0, false)", x.fewest(0, false), NONE);
        due("fewest(9, true)", x.fewest(9, true), 2525);
        due("fewest(5, true)", x.fewest(5, true), 252);
        OneSentence alone = on("I0P0110");
        due("fewest(4, true)", alone.fewest(4, true), 1111);
        due("fewest(5, true)", alone.fewest(5, true), NONE);
    }

    private static void can() {
        OneSentence x = on(FIVE);
        int[] cans = {1, 25, 409, 415};
        for (int n = 0; n <= 3; n++) {
            due("can(" + n + ")", x.can(n), cans[n]);
        }
        for (int n : new int[] {-1, 4, LEAST, MOST}) {
            due("can(" + n + ")", x.can(n), OUTSIDE);
        }
        due("can(3) of nobody", on("I0P9010").can(3), 1);
    }

    private static void toFetch() {
        OneSentence x = on(FIVE);
        String before = told(x);
        due("toFetch(9, false)", x.toFetch(9, false), 8);
        due("toFetch(9, true)", x.toFetch(9, true), 2);
        due("toFetch(6, false)", x.toFetch(6, false), 0);
        due("toFetch(6, true)", x.toFetch(6, true), 0);
        same("toFetch", before, x);
        for (int w : new int[] {-1, 10, LEAST, MOST}) {
            due("toFetch(" + w + ", true)", x.toFetch(w, true), OUTSIDE);
        }
        due("fewest hours", on("I5P4113P6113P8020").toFetch(2, false), 3);
        due("fewest hours", on("I5P4113P6113P8020").toFetch(2, true), 2);
        due("of like hours fewest people", on("I5P4113P6113P7020").toFetch(2, false), 4);
        due("of like ones the least", on("I5P9010P6010P4010").toFetch(1, false), 2);
        due("of like ones the least, by its row later", on("I5P4201P6120P6290P4120").toFetch(2, false), 2);
        due("nobody can", on("I5P9010P6010").toFetch(2, false), NONE);
        due("nobody can", on("I5P9010P6010").toFetch(2, true), NONE);
        due("not by more than four", on("I5P4110").toFetch(5, false), NONE);
        due("by four", on("I5P4110").toFetch(4, false), 1);
    }

    private static void needed() {
        OneSentence x = on(FIVE);
        due("needed()", x.needed(), 17);
        due("needed() of like ones", on("I0P0110P0110").needed(), 1);
        due("needed() of the least", on("I0P0000P0110P0110").needed(), 2);
        due("needed() of nobody", on("I0P9010").needed(), 0);
        due("needed() of nobody, for nothing new is told", on("I0P0000P0001").needed(), 0);
        due("needed() of all", on("I0P0010P0020P0030").needed(), 7);
        due("fewer before least", on("I0P0151P0000P0150").needed(), 4);
    }

    private static void naming() {
        OneSentence x = on("I0P0110");
        due("naming(1, false)", x.naming(1, false), 2);
        due("naming(1, true)", x.naming(1, true), 3);
        due("naming(2, false)", x.naming(2, false), 13);
        due("naming(2, true)", x.naming(2, true), 6);
        for (int n : new int[] {0, 4, -1, LEAST, MOST}) {
            due("naming(" + n + ", true)", x.naming(n, true), OUTSIDE);
        }
        OneSentence six = on("I0P0010P0020P0030P0040P0050P0060");
        due("naming(1, false) of six", six.naming(1, false), 7);
        due("naming(1, true) of six", six.naming(1, true), 8);
        due("person(6, 0)", six.person(6, 0), UNKNOWN);
        due("can(1)", six.can(1), 127);
        OneSentence away = on("I0P9010");
        OneSentence five = on("I0P0050");
        five.say(0);
        due("naming(1, false): SET 0", five.naming(1, false), 0);
        due("naming(1, true): SET 0", five.naming(1, true), 2);
        due("naming(3, true): as 5, 6, 7, 8", five.naming(3, true), 4);
        due("naming(1, false) of those there", away.naming(1, false), 1);
    }

    private static void spoken() {
        OneSentence x = on(FIVE);
        int[][] wants = {{1, 3, 1, 1, 18}, {2, 7, 2, 1, 0}, {1, 9, 0, NONE, NONE}, {2, 3, 2, 1, 2}, {1, 0, 0, NONE, NONE}};
        for (int[] want : wants) {
            for (int what = 0; what <= 2; what++) {
                due("spoken(" + want[0] + ", " + want[1] + ", " + what + ")", x.spoken(want[0], want[1], what),
                    want[2 + what]);
            }
        }
        int[][] outside = {{0, 0, 0}, {5, 0, 0}, {-1, 0, 0}, {MOST, 0, 0}, {1, -1, 0}, {1, 10, 0}, {1, 0, 3}, {1, 0, -1}};
        for (int[] row : outside) {
            due("spoken(" + row[0] + ", " + row[1] + ", " + row[2] + ")", x.spoken(row[0], row[1], row[2]), OUTSIDE);
        }
        due("spoken(4, 4, 0) of one", on("I0P0110").spoken(4, 4, 0), 1);
        due("spoken(4, 4, 1) of one", on("I0P0110").spoken(4, 4, 1), 1);
        due("spoken(3, 0, 0) of six", on("I0P0000P0000P0000P0000P0000P0000").spoken(3, 0, 0), 216);
        due("spoken(3, 0, 1) of six", on("I0P0000P0000P0000P0000P0000P0000").spoken(3, 0, 1), 0);
    }

    private static void quarrel() {
        OneSentence x = on(FIVE);
        int[][] wants = {{0, 1, 2, 1}, {1, 2, 2, 0}, {4, 1, 5, 0}, {3, 2, 2, 1}, {5, 0, UNKNOWN, UNKNOWN},
            {0, 5, UNKNOWN, UNKNOWN}, {5, 5, UNKNOWN, UNKNOWN}, {-1, 0, UNKNOWN, UNKNOWN}, {0, MOST, UNKNOWN, UNKNOWN},
            {0, 0, OUTSIDE, OUTSIDE}, {4, 4, OUTSIDE, OUTSIDE}};
        for (int[] want : wants) {
            due("quarrel(" + want[0] + ", " + want[1] + ", false)", x.quarrel(want[0], want[1], false), want[2]);
            due("quarrel(" + want[0] + ", " + want[1] + ", true)", x.quarrel(want[0], want[1], true), want[3]);
        }
        OneSentence ten = on("I0P0110P9103");
        due("quarrel(0, 1, false)", ten.quarrel(0, 1, false), 10);
        due("quarrel(0, 1, true)", ten.quarrel(0, 1, true), 0);
        OneSentence echo = on("I0P0140P0300P0000");
        echo.say(0);
        due("quarrel(1, 2, false): goes on from an ECHO", echo.quarrel(1, 2, false), 2);
        due("quarrel(1, 0, false): 4, 2, 0, 8, 6, 4", echo.quarrel(1, 0, false), 5);
        due("quarrel(1, 0, true)", echo.quarrel(1, 0, true), 0);
    }

    private static void share() {
        OneSentence two = on("I0P0010P0010P5030");
        due("share(0, 1, true)", two.share(0, 1, true), 1);
        due("share(0, 1, false)", two.share(0, 1, false), 2);
        due("share(2, 1, true) of one who is away", two.share(2, 1, true), 0);
        due("share(2, 1, false) of one who is away", two.share(2, 1, false), 1);
        OneSentence all = on("I0P0010P0020P0000P0001");
        due("share(0, 3, true)", all.share(0, 3, true), 1);
        due("share(0, 3, false)", all.share(0, 3, false), 1);
        due("share(2, 3, true) of one who tells nothing new", all.share(2, 3, true), 0);
        due("share(2, 3, false)", all.share(2, 3, false), 1);
        OneSentence three = on("I0P0010P0010P0010");
        due("share(1, 2, true)", three.share(1, 2, true), 1);
        due("share(1, 2, false)", three.share(1, 2, false), 3);
        OneSentence six = on("I0P0010P0010P0010P0010P0010P0010");
        due("share(5, 1, true)", six.share(5, 1, true), 1);
        due("share(5, 1, false)", six.share(5, 1, false), 6);
        int[][] refused = {{3, 1, UNKNOWN}, {-1, 9, UNKNOWN}, {0, 0, OUTSIDE}, {0, 4, OUTSIDE}, {0, LEAST, OUTSIDE}};
        for (int[] call : refused) {
            due("share(" + call[0] + ", " + call[1] + ", true)", three.share(call[0], call[1], true), call[2]);
            due("share(" + call[0] + ", " + call[1] + ", false)", three.share(call[0], call[1], false), call[2]);
        }
        due("share(2, 9, true) of one who is away", two.share(2, 9, true), OUTSIDE);
    }

    private static void rests() {
        OneSentence x = on("I0P0110P0110P0050P0190P0100");
        int[][] wants = {{0, 1, 0, 0, 1, 0}, {0, 1, 9, 9, 16, 0}, {0, 1, 9, 0, 4, 0}, {0, 1, 0, 9, 4, 0},
            {2, 0, 9, 8, 4, 10}, {2, 0, 9, 5, 1, 10}, {3, 4, 9, 0, 1, 10}};
        for (int[] want : wants) {
            String call = "rests(" + want[0] + ", " + want[1] + ", " + want[2] + ", " + want[3];
            due(call + ", 0)", x.rests(want[0], want[1], want[2], want[3], 0), want[4]);
            due(call + ", 1)", x.rests(want[0], want[1], want[2], want[3], 1), want[5]);
        }
        int[][] refused = {{0, 5, 0, 0, 0, UNKNOWN}, {5, 0, 0, 0, 0, UNKNOWN}, {5, 5, 0, 0, 0, UNKNOWN},
            {0, -1, 10, 0, 0, UNKNOWN}, {0, 0, 0, 0, 0, OUTSIDE}, {0, 1, 10, 0, 0, OUTSIDE}, {0, 1, -1, 0, 0, OUTSIDE},
            {0, 1, 0, 10, 0, OUTSIDE}, {0, 1, 0, -1, 0, OUTSIDE}, {0, 1, 0, 0, 2, OUTSIDE}, {0, 1, 0, 0, -1, OUTSIDE}};
        for (int[] call : refused) {
            due("rests(" + call[0] + ", " + call[1] + ", " + call[2] + ", " + call[3] + ", " + call[4] + ")",
                x.rests(call[0], call[1], call[2], call[3], call[4]), call[5]);
        }
        OneSentence second = on("I0P0100P0150P0120");
        due("rests(0, 1, 0, 5, 1)", second.rests(0, 1, 0, 5, 1), 1);
        due("rests(1, 0, 5, 0, 1)", second.rests(1, 0, 5, 0, 1), 10);
        due("rests(0, 2, 9, 6, 0)", second.rests(0, 2, 9, 6, 0), 1);
        due("rests(0, 2, 9, 6, 1)", second.rests(0, 2, 9, 6, 1), 3);
        OneSentence kinds = on("I0P5112P5113");
        due("rests(0, 1, 9, 9, 0): TWICE and OLD, away, as if PLAIN there", kinds.rests(0, 1, 9, 9, 0), 16);
    }

    private static void chance() {
        OneSentence x = on(FIVE);
        int[][] wants = {{1, 0, 1, 3}, {1, 3, 1, 3}, {1, 9, 0, 1}, {2, 0, 1, 9}, {2, 3, 1, 3}, {0, 0, OUTSIDE, OUTSIDE},
            {5, 0, OUTSIDE, OUTSIDE}, {1, -1, OUTSIDE, OUTSIDE}, {1, 10, OUTSIDE, OUTSIDE}, {LEAST, 0, OUTSIDE, OUTSIDE}};
        for (int[] want : wants) {
            due("chance(" + want[0] + ", " + want[1] + ", true)", x.chance(want[0], want[1], true), want[2]);
            due("chance(" + want[0] + ", " + want[1] + ", false)", x.chance(want[0], want[1], false), want[3]);
        }
        OneSentence nobody = on("I5P4010");
        due("chance(1, 0, true)", nobody.chance(1, 0, true), 1);
        due("chance(1, 0, false)", nobody.chance(1, 0, false), 1);
        due("chance(4, 1, true)", nobody.chance(4, 1, true), 0);
        due("chance(4, 1, false)", nobody.chance(4, 1, false), 1);
        OneSentence six = on("I0P0010P0000P0000P0000P0000P0000");
        due("chance(4, 1, true)", six.chance(4, 1, true), 1);
        due("chance(4, 1, false)", six.chance(4, 1, false), 6);
        OneSentence certain = on("I0P0000P0000");
        due("chance(4, 0, true)", certain.chance(4, 0, true), 1);
        due("chance(4, 0, false)", certain.chance(4, 0, false), 1);
    }

    private static void seed() {
        OneSentence x = on(FIVE);
        due("seed(5)", x.seed(5), 0);
        due("seed(MIN)", x.seed(Long.MIN_VALUE), 5);
        due("seed(MAX)", x.seed(Long.MAX_VALUE), Long.MIN_VALUE);
        x.keep(0);
        x.say(0);
        x.undo();
        x.again(0);
        x.island();
        due("seed(-1)", x.seed(-1), Long.MAX_VALUE);
        due("seed(0)", x.seed(0), -1);
    }

    private static void nights() {
        OneSentence x = on("I0P0010P0010P0010P0010P0010P0010");
        String before = told(x);
        due("nights(30)", x.nights(30), 30);
        same("nights", before, x);
        long seed = 0;
        for (int i = 0; i < 30; i++) {
            seed = seed * 6364136223846793005L + 1442695040888963407L;
        }
        due("seed(0)", x.seed(9), seed);
        for (int m : new int[] {0, 31, -1, LEAST, MOST}) {
            due("nights(" + m + ")", x.nights(m), OUTSIDE);
        }
        due("seed(0): no night was", x.seed(0), 9);
        String[] people = {"P0010", "P0020", "P0030", "P0040", "P0050", "P0060"};
        OneSentence six = on("I0" + String.join("", people));
        OneSentence two = on("I0" + people[0] + people[1] + "P9030");
        long[] seeds = {0, 1, 2, 5, -1, 123456789, Long.MIN_VALUE, Long.MAX_VALUE};
        for (long start : seeds) {
            long next = start * 6364136223846793005L + 1442695040888963407L;
            int who = (int) ((next >>> 33) % 6);
            six.seed(start);
            due("nights(1) from " + start, six.nights(1), who + 1);
            two.seed(start);
            due("nights(1) from " + start, two.nights(1), who < 2 ? who + 1 : 0);
        }
        x.say(0);
        due("nights(3) go on from now", x.nights(3), 3);
    }

    private static void keep() {
        OneSentence x = on(FIVE);
        for (int slot : new int[] {-1, 2, LEAST, MOST}) {
            due("keep(" + slot + ")", x.keep(slot), UNKNOWN);
        }
        due("keep(0)", x.keep(0), 0);
        x.fetch(2);
        String before = told(x);
        due("keep(1)", x.keep(1), 3);
        same("keep(1)", before, x);
        due("again(0)", x.again(0), 0);
        due("count(5)", x.count(5), 19);
        x.say(4);
        due("keep(1) anew", x.keep(1), 1);
        due("again(1)", x.again(1), 1);
        due("count(5)", x.count(5), 19);
        due("count(3)", x.count(3), 4);
    }

    private static void again() {
        OneSentence x = on(FIVE);
        for (int slot : new int[] {-1, 2, LEAST, MOST}) {
            due("again(" + slot + ")", x.again(slot), UNKNOWN);
        }
        x.say(0);
        String none = told(x);
        due("again(0)", x.again(0), STATE);
        same("again(0) of none", none, x);
        x.say(1);
        x.fetch(3);
        x.name(1, 0, 8);
        x.keep(0);
        due("again(1)", x.again(1), STATE);
        String before = told(x);
        x.say(3);
        x.say(1);
        x.fetch(2);
        x.name(4, 0, 8);
        x.send(3);
        due("again(0)", x.again(0), 4);
        due("count(8)", x.count(8), 0);
        due("undo()", x.undo(), STATE);
        same("again(0)", before.replaceFirst("^27 5 2 7 4 27 \\d+ 1 4", "27 5 2 7 4 27 " + x.count(6) + " 1 0"), x);
        due("say(3): an ECHO of ADD 4", x.say(3), 1);
        due("again(0) once more", x.again(0), 4);
        due("person(3, 5)", x.person(3, 5), 1);
    }

    private static void count() {
        OneSentence x = on(FIVE);
        x.write('z');
        x.say(0);
        x.fetch(3);
        int[] wants = {28, 5, 2, 3, 3, 27, 27, 0, 2};
        for (int what = 0; what < wants.length; what++) {
            due("count(" + what + ")", x.count(what), wants[what]);
        }
        for (int what : new int[] {-1, 9, LEAST, MOST}) {
            due("count(" + what + ")", x.count(what), OUTSIDE);
        }
        x.say(3);
        due("count(6): neither OLD", x.count(6), 19);
        x.say(1);
        due("count(6): nor WIDOW", x.count(6), 17);
        x.undo();
        x.undo();
        x.undo();
        x.undo();
        due("count(7)", x.count(7), NONE);
    }
}
