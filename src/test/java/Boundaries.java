import java.util.ArrayList;
import java.util.Arrays;
import java.util.List;
import java.util.TreeSet;

/**
 * Each sentence of the document that names a boundary: too small, too large, empty, full, a wrap-around, a refused
 * call. An edge is one such sentence, an island (null: a new object) and calls with what is due, told as texts:
 * "person 0|5 -1|7 -> OUTSIDE" are four calls, "say 0 *14" fourteen, "text I0" wipes and writes the letters.
 * Behind each call that is refused, and each that only asks, the object is held against one that was not called so.
 */
public final class Boundaries {
    private static final int UNKNOWN = -1, OUTSIDE = -2, STATE = -3, FULL = -4, NONE = -9;
    private static final List<String> REFUSALS = List.of("FULL", "STATE", "OUTSIDE", "UNKNOWN");
    private static final List<String> ACTING = List.of("text", "write", "wipe", "island", "fetch", "send", "say", "name",
        "undo", "seed", "nights", "keep", "again");
    private static final String[] CAN_REFUSE = {"write OUTSIDE", "write FULL", "island STATE", "person UNKNOWN",
        "person OUTSIDE", "fetch UNKNOWN", "fetch STATE", "send UNKNOWN", "send STATE", "say UNKNOWN", "say STATE",
        "name UNKNOWN", "name OUTSIDE", "name STATE", "undo STATE", "comesTo OUTSIDE", "comesTo STATE",
        "fewest OUTSIDE", "can OUTSIDE", "toFetch OUTSIDE", "naming OUTSIDE", "spoken OUTSIDE", "quarrel UNKNOWN",
        "quarrel OUTSIDE", "share UNKNOWN", "share OUTSIDE", "rests UNKNOWN", "rests OUTSIDE", "chance OUTSIDE",
        "nights OUTSIDE", "keep UNKNOWN", "again UNKNOWN", "again STATE", "count OUTSIDE"};

    // SET 3 PLAIN here; ADD 4 WIDOW here; NOT PLAIN 3 hours off; ECHO OLD 2 hours off; ADD 2 TWICE here.
    private static final String FIVE = "I2P2030P2141P5200P0303P2122";
    private static final String SIX_ADDS = "I0P0110P0120P0130P0140P0150P0160";
    private static final String SIX_SETS = "I0P0010P0020P0030P0040P0050P0060";
    private static final String SIX_NOUGHTS = "I0P0000P0000P0000P0000P0000P0000";

    private static final TreeSet<String> refused = new TreeSet<>();
    private static int wrong = 0;

    private record Call(String name, long[] with, Long due) {
        @Override
        public String toString() {
            return name + Arrays.toString(with);
        }
    }

    public static void main(String[] args) {
        aNewObject();
        write();
        wipe();
        fault();
        island();
        islandAnew();
        person();
        fetch();
        send();
        say();
        sentences();
        may();
        name();
        undo();
        comesTo();
        fewest();
        can();
        toFetch();
        needed();
        naming();
        spoken();
        quarrel();
        share();
        rests();
        chance();
        seed();
        nights();
        keep();
        again();
        count();
        for (String refusal : CAN_REFUSE) {
            if (!refused.contains(refusal)) {
                fault("no edge has " + refusal);
            }
        }
        System.out.println(wrong == 0 ? "all edges hold" : wrong + " edges do not hold");
        if (wrong != 0) {
            System.exit(1);
        }
    }

    // ---- promises 1 to 6: the island

    private static void aNewObject() {
        edge("1: nobody", null, "count 0|1|2|3|4|5|6|8 -> 0", "count 7 -> NONE", "person 0|1|5 0|3|6 -> UNKNOWN",
            "needed -> 0", "can 0|3 -> 1", "nights 30 -> 0");
        edge("1: nothing was done", null, "undo -> STATE", "again 0|1 -> STATE", "seed 1 -> 0", "wipe -> 0");
        edge("1: THE TEXT is empty", null, "fault -> 0", "island -> STATE");
    }

    private static void write() {
        edge("2: a letter is 0 to 255", null, "write 0 -> 1", "write 255 -> 2", "write -1|256|MIN|MAX -> OUTSIDE",
            "count 0 -> 2");
        edge("2: FULL: there are 40", null, "write 80 *38", "write 80 -> 39", "write 80 -> 40",
            "write 0|80|255 -> FULL", "count 0 -> 40", "wipe -> 40", "write 80 -> 1");
        edge("2: OUTSIDE before FULL", null, "write 80 *40", "write -1|256|MIN|MAX -> OUTSIDE");
        edge("2: what is refused does not come", null, "text I0P011", "write 256 -> OUTSIDE", "write 48 -> 7",
            "write -1 -> OUTSIDE", "fault -> NONE", "island -> 1");
    }

    private static void wipe() {
        edge("3: how long it was", null, "wipe -> 0", "write 0 -> 1", "wipe -> 1", "wipe -> 0", "write 73 *40",
            "wipe -> 40", "count 0 -> 0");
        edge("3: THE TEXT alone", FIVE, "say 0 -> 3", "wipe -> 27", "count 1 -> 5", "count 3 -> 3", "count 8 -> 1",
            "fault -> 0", "undo -> 0");
    }

    private static void fault() {
        edge("4: its length, if it is only not at its end", null, "fault -> 0", "text I", "fault -> 1", "text I0P",
            "fault -> 3", "text I0P0", "fault -> 4", "text I0P00", "fault -> 5", "text I0P000", "fault -> 6");
        edge("4: PEOPLE, none or more", null, "text I0", "fault -> NONE", "text I9P9393", "fault -> NONE");
        edge("4: 6 at most", null, "text " + SIX_SETS, "fault -> NONE", "text " + SIX_SETS + "P", "fault -> 32",
            "text " + SIX_SETS + "P0000", "fault -> 32", "text " + SIX_SETS + "P0000P00", "fault -> 32",
            "count 0 -> 40");
        edge("4: the first letter", null, "text IxQ", "fault -> 1", "text I0P4404P", "fault -> 4", "text I0P0",
            "write 45 -> 5", "write 48 -> 6", "fault -> 4");
        edge("4: a full TEXT", null, "write 73 *40", "fault -> 1", "wipe -> 40", "write 0 *40", "fault -> 0");
        eachLetter();
    }

    private static void eachLetter() {
        String good = "I9P9393P0000P9393P0000P9393P0000";
        for (int place = 0; place <= good.length(); place++) {
            String begin = good.substring(0, place);
            boolean isWhole = place >= 2 && (place - 2) % 5 == 0;
            due("4: the first " + place + " letters", faultOf(begin), isWhole ? NONE : place);
            for (char letter = 0; letter <= 255; letter++) {
                boolean fits = place < good.length() && allowed(place).indexOf(letter) >= 0;
                String rest = place < good.length() ? good.substring(place + 1) : "";
                int want = fits ? NONE : place;
                due("4: letter " + (int) letter + " at " + place, faultOf(begin + letter + rest), want);
            }
        }
    }

    private static String allowed(int place) {
        if (place < 2) {
            return place == 0 ? "I" : "0123456789";
        }
        return new String[] {"P", "0123456789", "0123", "0123456789", "0123"}[(place - 2) % 5];
    }

    private static long faultOf(String text) {
        OneSentence x = new OneSentence();
        tell(x, text);
        return x.fault();
    }

    private static void island() {
        edge("5: how many PEOPLE", null, "text I0", "island -> 0", "text I9P0000", "island -> 1", "text " + SIX_SETS,
            "island -> 6", "text " + SIX_SETS + "P0000", "island -> STATE", "count 1 -> 6");
        edge("5: STATE: a FAULT", "I2P2030P2141P5200", "say 0 -> 3", "say 1 -> 7", "fetch 2 -> 5", "keep 0 -> 5",
            "name 0 1 1 -> 3", "keep 1 -> 5", "seed 5 -> 0", "text ", "island -> STATE", "text I", "island -> STATE",
            "text I2P203", "island -> STATE", "text I2P2030x", "island -> STATE", "text J2", "island -> STATE",
            "text I2P2030P2141P520x", "island -> STATE", "undo -> 3", "again 0|1 -> 5", "seed 0 -> 5");
        edge("5: THE TEXT stays as it is", null, "text I3P3010", "island -> 1", "count 0 -> 7", "fault -> NONE",
            "say 0 -> 1", "island -> 1", "count 3 -> 0", "write 80 -> 8", "island -> STATE");
        edge("5: nobody any more", FIVE, "say 0 -> 3", "fetch 3 -> 3", "text I7", "island -> 0", "count 1 -> 0",
            "count 2 -> 7", "count 3|4|5|6|8 -> 0", "count 7 -> NONE", "person 0|4 0 -> UNKNOWN", "say 0 -> UNKNOWN",
            "needed -> 0", "chance 1 0 T -> 1", "toFetch 3 F -> NONE", "spoken 1 0 0 -> 0");
        edge("5: fewer than there were", SIX_ADDS, "say 5 -> 6", "text I0P0110", "island -> 1",
            "person 1|5|6 0 -> UNKNOWN", "count 5|6 -> 1", "comesTo 1 2|6 1 -> 0", "comesTo 1 1 0 -> 1", "needed -> 1",
            "spoken 2 2 0|1 -> 1", "chance 1 1 T|F -> 1", "quarrel 0 5 F -> UNKNOWN", "toFetch 6 F -> NONE");
    }

    private static void islandAnew() {
        String[] doings = {"say 0 -> 3", "say 1 -> 7", "fetch 2 -> 5", "fetch 3 -> 7", "say 3 -> 1", "name 4 0 9 -> 12",
            "keep 0|1 -> 8", "seed 9 -> 0", "island -> 5"};
        edge("5: THE SENSE is 0, THE HOUR is 0", FIVE, with(doings, "count 3|4 -> 0"));
        edge("5: all are at home (at the MARKET, if that is its PLACE)", FIVE, with(doings, "count 5 -> 19",
            "person 2|3 4 -> 0", "person 0|1|4 4 -> 1"));
        edge("5: nothing was said", FIVE, with(doings, "count 7 -> NONE", "person 0|1|2|3|4 6 -> 0", "count 6 -> 17",
            "say 1 -> STATE", "fetch 3 -> 2", "say 3 -> 0"));
        edge("5: SENTENCES as they are told", FIVE, with(doings, "person 4 1 -> 1", "person 4 2 -> 2"));
        edge("5: THE ROW of ACTS is empty", FIVE, with(doings, "count 8 -> 0", "undo -> STATE"));
        edge("5: what was kept is gone", FIVE, with(doings, "again 0|1 -> STATE"));
        edge("5: THE SEED stays", FIVE, with(doings, "seed 0 -> 9"));
    }

    private static void person() {
        edge("6: UNKNOWN", FIVE, "person 4 0 -> 2", "person 5|6|7|31|32|36|-1|-28|MIN|MAX 0|6 -> UNKNOWN");
        edge("6: UNKNOWN of six", SIX_SETS, "person 5 2 -> 6", "person 6|-1 0|2|5 -> UNKNOWN");
        edge("6: OUTSIDE", FIVE, "person 0|4 -1|7|MIN|MAX -> OUTSIDE");
        edge("6: UNKNOWN before OUTSIDE", FIVE, "person -1|5 -1|7 -> UNKNOWN");
        edge("6: the least and the most of each", "I9P0000P9393", "person 0 0|1|2|3|4|5|6 -> 0", "person 1 0|2 -> 9",
            "person 1 1|3 -> 3", "person 1 4|5 -> 1", "say 1 -> 0", "person 1 5 -> 0", "person 1 6 -> 1");
        edge("6: SORT, v and KIND of each", FIVE, "person 3 1|3 -> 3", "person 3 2 -> 0", "person 2 1 -> 2",
            "person 4 3 -> 2");
        edge("6: how often it spoke", "I0P0110", "person 0 6 -> 0", "say 0 *100", "person 0 6 -> 100", "undo -> 13",
            "person 0 6 -> 99");
    }

    // ---- promises 7 to 11: acts

    private static void fetch() {
        edge("7: as many HOURS as there are PLACES", "I5P4000P6000P0000P9000", "fetch 0 -> 1", "fetch 1 -> 2",
            "fetch 2 -> 7", "fetch 3 -> 11");
        edge("7: from one end to the other", "I9P0000", "fetch 0 -> 9");
        edge("7: from the other end", "I0P9000", "fetch 0 -> 9");
        edge("7: UNKNOWN", FIVE, "fetch 5|6|34|-1|-30|MIN|MAX -> UNKNOWN", "count 8 -> 0");
        edge("7: STATE: it is at the MARKET, at home", FIVE, "fetch 0|1|4 -> STATE", "count 4|8 -> 0");
        edge("7: STATE: it is at the MARKET, fetched", FIVE, "fetch 2 -> 3", "fetch 2 -> STATE", "count 4 -> 3",
            "count 8 -> 1", "send 2 -> 3", "fetch 2 -> 6");
    }

    private static void send() {
        edge("8: how many are at the MARKET then", "I5P4000P6000", "fetch 0 -> 1", "fetch 1 -> 2", "send 0 -> 1",
            "send 1 -> 0");
        edge("8: no HOURS", FIVE, "fetch 2 -> 3", "send 2 -> 3", "count 4 -> 3");
        edge("8: UNKNOWN", FIVE, "send 5|6|33|-1|-31|MIN|MAX -> UNKNOWN", "count 8 -> 0");
        edge("8: STATE: it is not there", FIVE, "send 2|3 -> STATE", "fetch 2 -> 3", "send 2 -> 3", "send 2 -> STATE");
        edge("8: STATE: or at home there", FIVE, "send 0|1|4 -> STATE", "count 5 -> 19", "count 8 -> 0");
    }

    private static void say() {
        edge("9: 1 HOUR", FIVE, "say 0 -> 3", "count 4 -> 1", "say 4 -> 7", "count 4 -> 2");
        edge("9: UNKNOWN", FIVE, "say 5|6|32|-1|-32|MIN|MAX -> UNKNOWN", "count 8 -> 0");
        edge("9: STATE: it MAY not", FIVE, "say 1|2|3 -> STATE", "count 3|4|8 -> 0", "count 7 -> NONE",
            "person 1|2|3 6 -> 0");
    }

    private static void sentences() {
        edge("9: SET, the least and the most", "I0P0090P0000", "say 0 -> 9", "say 0 -> 9", "say 1 -> 0", "say 1 -> 0");
        edge("9: ADD, less 10, if it is 10 or more", "I0P0190P0100P0110P0150", "say 0 -> 9", "say 1 -> 9", "say 2 -> 0",
            "say 3 -> 5", "say 3 -> 0", "say 0 -> 9", "say 0 -> 8");
        edge("9: NOT, 9 less it", "I0P0200P0150", "say 0 -> 9", "say 0 -> 0", "say 1 -> 5", "say 0 -> 4", "say 0 -> 5");
        edge("9: v is nothing to NOT and ECHO", "I0P0290P0390", "say 1 -> 0", "say 0 -> 9", "say 1 -> 0");
        edge("9: ECHO, nothing was said so", "I0P0300P0392P0310", "say 0|1|2 -> 0", "count 4 -> 3", "say 0 -> 0");
        edge("9: ECHO, the last one that is no ECHO", "I0P0120P0300P0310P0200", "say 0 -> 2", "say 1 -> 4", "say 2 -> 6",
            "say 1 -> 8", "say 3 -> 1", "say 2 -> 8", "say 1 -> 1");
        edge("9: ECHO of SET and of ADD that goes beyond 9", "I0P0070P0300P0190", "say 0 -> 7", "say 1 -> 7",
            "say 2 -> 6", "say 1 -> 5");
        edge("9: as it was when it was said", "I0P0120P0300P9190", "say 0 -> 2", "name 0 0 9 -> 12", "say 1 -> 4",
            "fetch 2 -> 11", "say 2 -> 3", "send 2 -> 2", "say 1 -> 2", "name 2 3 0 -> 19", "say 1 -> 1");
        edge("9: TWICE, two times", "I0P0192P0152P0202P0092P0102P0112", "say 0 -> 8", "say 1 -> 8", "say 2 -> 8",
            "say 3 -> 9", "say 4 -> 9", "say 5 -> 1", "count 4 -> 6", "person 0 6 -> 1");
        edge("9: an ECHO of it does it once", "I0P0132P0300P0302P0202", "say 0 -> 6", "say 1 -> 9", "say 2 -> 5",
            "say 1 -> 8", "say 3 -> 8", "say 1 -> 1", "say 2 -> 1");
    }

    private static void may() {
        edge("9: if it is at the MARKET", "I0P9010", "say 0 -> STATE", "person 0 5 -> 0", "fetch 0 -> 9", "say 0 -> 1",
            "send 0 -> 0", "say 0 -> STATE", "count 6 -> 0");
        edge("9: a WIDOW, if somebody spoke", "I0P0111P0113P0110", "say 0 -> STATE", "person 0 5 -> 0", "say 1 -> 1",
            "person 0 5 -> 1", "say 0 -> 2");
        edge("9: and the last one was not she", "I0P0111P0111P0110", "say 2 -> 1", "say 0 -> 2", "say 0 -> STATE",
            "count 6 -> 6", "say 1 -> 3", "say 1 -> STATE", "say 0 -> 4");
        edge("9: a WIDOW, the only one", "I0P0111", "say 0 -> STATE", "can 3 -> 1", "spoken 1 0 0 -> 0");
        edge("9: a WIDOW, when it is undone", "I0P0111P0110", "say 1 -> 1", "undo -> 0", "say 0 -> STATE");
        edge("9: a WIDOW behind one who went home", "I0P0111P9110", "fetch 1 -> 9", "say 1 -> 1", "send 1 -> 1",
            "say 0 -> 2", "undo -> 3", "say 0 -> 2");
        edge("9: an OLD one, if it did not speak", "I0P0113P0110P4113", "say 0 -> 1", "say 0 -> STATE", "say 1 -> 2",
            "say 0 -> STATE", "undo -> 1", "undo -> 0", "say 0 -> 1", "name 0 1 2 -> 11", "say 0 -> STATE",
            "fetch 2 -> 5", "say 2 -> 2", "send 2 -> 2", "fetch 2 -> 10", "say 2 -> STATE");
    }

    private static void name() {
        edge("10: UNKNOWN", FIVE, "name 5|6|32|-1|-32|MIN|MAX 0 0 -> UNKNOWN", "count 8 -> 0");
        edge("10: OUTSIDE: sort (0 to 3)", FIVE, "name 0 -1|4|MIN|MAX 0 -> OUTSIDE", "name 0 0 0 -> 3",
            "name 0 3 0 -> 0", "name 0 2 0 -> 30", "name 0 1 0 -> 20");
        edge("10: OUTSIDE: v (0 to 9)", FIVE, "name 0 0|1|3 -1|10|MIN|MAX -> OUTSIDE", "name 0 0 0 -> 3",
            "name 0 0 9 -> 0", "person 0 2 -> 9");
        edge("10: UNKNOWN before OUTSIDE", FIVE, "name -1|5 -1|4|0 -1|10 -> UNKNOWN");
        edge("10: OUTSIDE, though 10 times SORT, and v is that", FIVE, "name 0 1 -7 -> OUTSIDE",
            "name 0 -1 13 -> OUTSIDE", "name 1 0 14 -> OUTSIDE", "name 1 2 -6 -> OUTSIDE", "count 8 -> 0");
        edge("10: STATE: it is that", FIVE, "name 0 0 3 -> STATE", "name 1 1 4 -> STATE", "name 2 2 0 -> STATE",
            "name 3 3 0 -> STATE", "name 0 3 9 -> 3", "name 0 3 9 -> STATE", "count 8 -> 1");
        edge("10: another v is another SENTENCE", FIVE, "name 2 2 1 -> 20", "name 3 3 9 -> 30", "name 2 2 0 -> 21");
        edge("10: what it was, the least and the most", "I0P0000P0390", "name 0 3 9 -> 0", "name 1 0 0 -> 39");
        edge("10: no HOURS, nobody speaks", FIVE, "name 2 0 9 -> 20", "count 3|4 -> 0", "count 7 -> NONE");
    }

    private static void undo() {
        edge("11: STATE: there is none", FIVE, "undo -> STATE", "say 0 -> 3", "undo -> 0", "undo -> STATE");
        edge("11: what is refused is no ACT", FIVE, "fetch 0|9 -> STATE|UNKNOWN", "send 0 -> STATE", "say 1 -> STATE",
            "name 0 0 3 -> STATE", "name 0 4 0 -> OUTSIDE", "undo -> STATE", "count 8 -> 0");
        edge("11: 14 at most", "I0P0110", "say 0 *12", "say 0 -> 3", "count 8 -> 13", "say 0 -> 4", "count 8 -> 14",
            "undo -> 13", "say 0 -> 4", "say 0 -> 5", "count 8 -> 14", "say 0 -> 6", "count 8 -> 14");
        edge("11: of more the first one is forgotten", "I0P0110", "say 0 *15", "undo *13", "count 3 -> 2", "undo -> 0",
            "count 3|4 -> 1", "undo -> STATE", "count 3|4 -> 1");
        edge("11: the first one of 14 is not", "I0P0110", "say 0 *14", "undo *13", "undo -> 0", "count 3|4 -> 0",
            "count 7 -> NONE");
        edge("11: forgotten ones of each kind", "I0P0110P9100", "fetch 1 -> 9", "send 1 -> 1", "fetch 1 -> 18",
            "name 1 0 9 -> 10", "say 1 -> 9", "say 0 *14", "undo *14", "undo -> STATE", "count 5 -> 3", "count 3 -> 9",
            "count 4 -> 19", "person 1 2 -> 9", "count 7 -> 1");
        edge("11: the row, many times full", "I0P0110", "say 0 *100", "undo *14", "undo -> STATE", "count 4 -> 86",
            "say 0 -> 7", "say 0 -> 8", "undo -> 1", "undo -> 0", "undo -> STATE", "count 3 -> 6");
        edge("11: FETCHED", FIVE, "fetch 2 -> 3", "undo -> 0", "count 4 -> 0", "person 2 4 -> 0", "fetch 2 -> 3");
        edge("11: SENT", FIVE, "fetch 2 -> 3", "send 2 -> 3", "undo -> 1", "person 2 4 -> 1", "count 4 -> 3");
        edge("11: SAID", FIVE, "say 0 -> 3", "say 1 -> 7", "undo -> 1", "count 3 -> 3", "count 4 -> 1", "count 7 -> 0",
            "person 1 6 -> 0", "say 1 -> 7");
        edge("11: SAID, what an ECHO makes", "I0P0120P0200P0300", "say 0 -> 2", "say 1 -> 7", "undo -> 1", "say 2 -> 4",
            "undo -> 1", "undo -> 0", "say 2 -> 0");
        edge("11: NAMED", FIVE, "name 0 1 1 -> 3", "undo -> 0", "person 0 1 -> 0", "person 0 2 -> 3",
            "name 0 0 3 -> STATE");
    }

    // ---- promises 12 to 17: sayings

    private static void comesTo() {
        edge("12: n, 1 to 5", SIX_ADDS, "comesTo -1|0|6|7|MIN|MAX 0|1|11111 0|1 -> OUTSIDE", "comesTo 1 6 0 -> 6",
            "comesTo 5 11116 0 -> 0");
        edge("12: row, 0 or more", SIX_ADDS, "comesTo 1|2|5 -1|-11|MIN 0|1 -> OUTSIDE", "comesTo 1|5 0 0 -> STATE",
            "comesTo 1|5 0 1 -> 0");
        edge("12: n figures at most", SIX_ADDS, "comesTo 1 10|11|MAX 0|1 -> OUTSIDE", "comesTo 2 100|111 0|1 -> OUTSIDE",
            "comesTo 3 1000|1111 0|1 -> OUTSIDE", "comesTo 4 10000|11111 0|1 -> OUTSIDE",
            "comesTo 5 100000|111111|MAX 0|1 -> OUTSIDE");
        edge("12: n figures", SIX_ADDS, "comesTo 1 9 1 -> 0", "comesTo 2 69 1 -> 1", "comesTo 3 669 1 -> 2",
            "comesTo 4 6669 1 -> 3", "comesTo 5 66669 1 -> 4", "comesTo 5 99999 1 -> 0", "comesTo 5 99999 0 -> STATE",
            "comesTo 2 66 0 -> 2", "comesTo 3 666 0 -> 8", "comesTo 4 6666 0 -> 4", "comesTo 5 66666 0 -> 0");
        edge("12: what", SIX_ADDS, "comesTo 1 1 -1|2|MIN|MAX -> OUTSIDE");
        edge("12: OUTSIDE before STATE", FIVE, "comesTo 1 2|6|0 -1|2 -> OUTSIDE", "comesTo 6 222222 0 -> OUTSIDE",
            "comesTo 1 22 0 -> OUTSIDE", "comesTo 1 2 0 -> STATE");
        edge("12: that there is not", SIX_ADDS, "comesTo 1 6 1 -> NONE", "comesTo 1 7|8|9|0 1 -> 0",
            "comesTo 1 7|8|9|0 0 -> STATE", "comesTo 5 11117|11110 1 -> 4", "comesTo 5 11117|11110 0 -> STATE",
            "comesTo 3 107 1 -> 1", "comesTo 3 11 1 -> 0", "comesTo 5 1111 0 -> STATE");
        edge("12: or that MAY not", FIVE, "comesTo 2 13|14 1 -> 1", "comesTo 1 2 1 -> 0", "comesTo 5 12122 1 -> 4",
            "comesTo 5 12122 0 -> STATE", "comesTo 5 12121 0 -> 3", "comesTo 5 12121 1 -> NONE", "fetch 3 -> 2",
            "comesTo 2 44 1 -> 1", "comesTo 1 4 1 -> NONE", "say 3 -> 0", "comesTo 1 4 1 -> 0");
        edge("12: from now", "I0P0120P0300P0111P0113", "comesTo 2 22 0 -> 0", "comesTo 1 3 1 -> 0", "say 0 -> 2",
            "comesTo 2 22 0 -> 6", "comesTo 1 3 0 -> 3", "say 2 -> 3", "comesTo 1 3 1 -> 0", "comesTo 2 13 0 -> 6",
            "comesTo 1 2 0 -> 4", "say 3 -> 4", "comesTo 5 11114 1 -> 4");
        edge("12: nobody", null, "comesTo 1 0|1|9 0 -> STATE", "comesTo 5 0|99999 1 -> 0");
    }

    private static void fewest() {
        edge("13: w, 0 to 9", "I0P0190P0110", "fewest -1|10|MIN|MAX F|T -> OUTSIDE", "fewest 9 F|T -> 1");
        edge("13: 0 sayings", "I0P0190", "fewest 0 F|T -> 0", "say 0 -> 9", "fewest 9 F|T -> 0", "fewest 0 F|T -> NONE");
        edge("13: 4 sayings, and no more", "I0P0110", "fewest 3 F -> 3", "fewest 3 T -> 111", "fewest 4 F -> 4",
            "fewest 4 T -> 1111", "fewest 5|9 F|T -> NONE");
        edge("13: fewer first", "I0P0110P0120P0130", "fewest 3 T -> 3", "fewest 4 T -> 13", "fewest 4 F -> 2",
            "fewest 9 T -> 333");
        edge("13: then the least as a number", "I0P0000P0010P0010P0011P0200P0010", "fewest 1 T -> 2", "fewest 8 T -> 25",
            "fewest 9 T -> 5");
        edge("13: the least with the sixth", SIX_ADDS, "fewest 6 T -> 6", "fewest 7 T -> 16", "fewest 9 T -> 36");
        edge("13: by those that are at the MARKET", "I0P9010", "fewest 1 F|T -> NONE", "fetch 0 -> 9",
            "fewest 1 F|T -> 1");
        edge("13: nobody", null, "fewest 0 F|T -> 0", "fewest 1|9 F|T -> NONE", "fewest 10 T -> OUTSIDE");
    }

    private static void can() {
        edge("14: n (0 to 3)", "I0P0110", "can -1|4|5|MIN|MAX -> OUTSIDE", "can 0 -> 1", "can 1 -> 3", "can 2 -> 7",
            "can 3 -> 15");
        edge("14: 0 sayings: THE SENSE", "I0P0090", "say 0 -> 9", "can 0|3 -> 512");
        edge("14: or fewer", "I0P0200", "can 1|2|3 -> 513");
        edge("14: all ten", "I0P0110P0130P0140", "can 3 -> 1023", "can 2 -> 511");
        edge("14: who MAY not", "I0P0113P0151", "can 1 -> 3", "can 2|3 -> 67");
        edge("14: nobody at the MARKET", "I0P9010", "can 0|1|2|3 -> 1");
    }

    private static void toFetch() {
        edge("15: w", FIVE, "toFetch -1|10|MIN|MAX F|T -> OUTSIDE", "toFetch 0 F|T -> 0");
        edge("15: nobody has to be", "I5P4010P5020", "toFetch 0|2 F|T -> 0", "toFetch 1 F|T -> 1");
        edge("15: besides those at the MARKET", "I5P5110P6200P4200", "fetch 1 -> 1", "toFetch 8 F|T -> 0", "send 1 -> 1",
            "toFetch 8 F -> 2", "toFetch 8 T -> 1");
        edge("15: by fewest HOURS, though more PEOPLE", "I5P4113P6113P8020", "toFetch 2 F -> 3", "toFetch 2 T -> 2");
        edge("15: of like ones fewest PEOPLE", "I5P4113P6113P7020", "toFetch 2 F -> 4", "toFetch 2 T -> 2");
        edge("15: fewest PEOPLE, told before the others", "I5P4113P6113P7023", "toFetch 2 F -> 4", "toFetch 2 T -> 2");
        edge("15: fewest PEOPLE, told behind the others", "I5P4113P6113P7110", "toFetch 2 F -> 4", "toFetch 2 T -> 2");
        edge("15: then the least", "I5P9010P6010P4010", "toFetch 1 F -> 2", "toFetch 1 T -> 1");
        edge("15: the fourth alone", "I0P0000P0000P0000P1010", "toFetch 1 F -> 8", "toFetch 1 T -> 1");
        edge("15: four of six", "I0P9113P9113P9113P9113P9203P9303", "toFetch 4 F -> 15", "toFetch 4 T -> 36",
            "toFetch 5 F|T -> NONE", "toFetch 6 F -> 23", "toFetch 6 T -> 36", "toFetch 9 F -> 16");
        edge("15: the last of six", "I0P1000P1000P1000P1000P1000P1010", "toFetch 1 F -> 32", "toFetch 1 T -> 1");
        edge("15: from one end to the other", "I9P0010", "toFetch 1 F -> 1", "toFetch 1 T -> 9");
        edge("15: NONE", "I5P9010P6110", "toFetch 4 F -> 2", "toFetch 6|9 F|T -> NONE");
        edge("15: four sayings and no more", "I5P4110", "toFetch 4 F|T -> 1", "toFetch 5 F|T -> NONE");
        edge("15: nobody", null, "toFetch 0 F|T -> 0", "toFetch 1 F|T -> NONE");
    }

    private static void needed() {
        edge("16: none", "I0P0000P0100P0001", "needed -> 0");
        edge("16: all of them", SIX_SETS, "needed -> 63");
        edge("16: of those at the MARKET", "I0P9010P0020", "needed -> 2", "fetch 0 -> 9", "needed -> 3");
        edge("16: the fewest, though another is less by bits", "I0P0151P0000P0150", "needed -> 4");
        edge("16: of like ones the least by bits", "I0P0000P0110P0110P0110", "needed -> 2");
        edge("16: nobody", null, "needed -> 0");
    }

    private static void naming() {
        edge("17: n (1 to 3)", "I0P0110", "naming -1|0|4|MIN|MAX F|T -> OUTSIDE", "naming 1 F -> 2", "naming 1 T -> 3",
            "naming 2 F -> 13", "naming 2 T -> 6");
        edge("17: one PERSON more than 6", SIX_SETS, "naming 1 F -> 7", "naming 1 T -> 8", "person 6 0 -> UNKNOWN",
            "count 1 -> 6", "comesTo 1 7 1 -> 0");
        edge("17: the first of like ones", "I0P0050", "say 0 -> 5", "naming 1 F -> 0", "naming 1 T -> 2");
        edge("17: NOT is the best", "I0P0120", "naming 3 F -> 20", "naming 3 T -> 10");
        edge("17: ECHO is the best", "I0P0183P0113", "say 0 -> 8", "naming 2 F -> 30", "naming 2 T -> 6");
        edge("17: nothing is more", "I0P0110P0130P0140", "naming 3 F -> 0", "naming 3 T -> 10");
        edge("17: nobody", null, "naming 1 F -> 1", "naming 1 T -> 2", "naming 2 F -> 11", "naming 2 T -> 3",
            "naming 3 F -> 11", "naming 3 T -> 4");
    }

    // ---- promises 18 and 19: who spoke

    private static void spoken() {
        edge("18: n (1 to 4)", "I0P0110", "spoken -1|0|5|MIN|MAX 0 0|1|2 -> OUTSIDE", "spoken 1 1 0|1 -> 1",
            "spoken 4 4 0|1 -> 1");
        edge("18: w", "I0P0190", "spoken 1 -1|10|MIN|MAX 0|1|2 -> OUTSIDE", "spoken 1 9 0 -> 1", "spoken 1 0 0 -> 0");
        edge("18: what", "I0P0190", "spoken 1 9 -1|3|MIN|MAX -> OUTSIDE", "spoken 1 9 2 -> 0");
        edge("18: n sayings and not fewer", "I0P0110", "spoken 2|3|4 0|1 0 -> 0", "spoken 2|3|4 0|1 1|2 -> NONE");
        edge("18: NONE: there are none", "I0P0110", "spoken 1 9 0 -> 0", "spoken 1 9 1|2 -> NONE");
        edge("18: six by four", SIX_NOUGHTS, "spoken 4 0 0 -> 1296", "spoken 4 0 1|2 -> 0", "spoken 4 1 0 -> 0",
            "spoken 4 1 1|2 -> NONE");
        edge("18: who speak in all, in none", SIX_SETS, "spoken 1 6 0 -> 1", "spoken 1 6 1 -> 32", "spoken 1 6 2 -> 31",
            "spoken 2 6 0 -> 6", "spoken 2 6 1 -> 32", "spoken 2 6 2 -> 0");
        edge("18: in none, of those at the MARKET", "I0P0110P9000P0100", "spoken 1 1 1 -> 1", "spoken 1 1 2 -> 4");
        edge("18: who MAY not", "I0P0113P0131", "spoken 2 2 0 -> 0", "spoken 2 4 0 -> 1", "spoken 2 4 1 -> 3",
            "spoken 2 4 2 -> 0", "spoken 3 4|5|7 0 -> 0");
        edge("18: nobody", null, "spoken 1|4 0 0 -> 0", "spoken 1|4 0 1|2 -> NONE");
    }

    private static void quarrel() {
        edge("19: UNKNOWN: both", FIVE, "quarrel -1|5|6|MIN|MAX 0 F|T -> UNKNOWN",
            "quarrel 0 -1|5|6|MIN|MAX F|T -> UNKNOWN");
        edge("19: OUTSIDE: both are one", FIVE, "quarrel 0 0 F|T -> OUTSIDE", "quarrel 4 4 F|T -> OUTSIDE");
        edge("19: UNKNOWN before OUTSIDE", FIVE, "quarrel 5 5 F|T -> UNKNOWN", "quarrel -1 -1 F|T -> UNKNOWN");
        edge("19: 0: now", "I0P0100P0100", "quarrel 0 1 F -> 1", "quarrel 0 1 T -> 0");
        edge("19: one turn, both speak in one", "I0P0130P0170", "quarrel 0 1 F -> 1", "quarrel 0 1 T -> 0");
        edge("19: ten turns", "I0P0110P0100", "quarrel 0|1 0|1 F -> OUTSIDE|10|10|OUTSIDE",
            "quarrel 0 1 T -> 0");
        edge("19: not now, but behind one", "I0P0010P0020", "quarrel 0 1 F -> 2", "quarrel 0 1 T -> 1",
            "quarrel 1 0 F -> 2", "quarrel 1 0 T -> 1");
        edge("19: the first one first", "I0P0110P0200", "quarrel 0 1 F -> 2", "quarrel 1 0 F -> 1", "quarrel 0 1 T -> 0",
            "name 0 0 3 -> 11", "name 1 1 2 -> 20", "say 0 -> 3", "quarrel 0 1 F -> 2", "quarrel 0 1 T -> 1",
            "quarrel 1 0 F -> 1", "quarrel 1 0 T -> 0");
        edge("19: as if each were PLAIN at the MARKET", "I0P9113P9152P9111P9142", "quarrel 0 1 F -> 5",
            "quarrel 2 3 F -> 2", "quarrel 2 0 F -> 5", "quarrel 0|1 2|3 T -> 0");
        edge("19: goes on from what was said", "I0P0200P0300P0120", "say 0 -> 9", "say 0 -> 0", "quarrel 1 2 F -> 6",
            "quarrel 1 2 T -> 1");
        edge("19: nobody", null, "quarrel 0 0|1 F|T -> UNKNOWN");
    }

    // ---- promises 20 to 24: shares, rests, chances

    private static void share() {
        edge("20: UNKNOWN", FIVE, "share -1|5|6|MIN|MAX 1 F|T -> UNKNOWN");
        edge("20: OUTSIDE: n", FIVE, "share 0 -1|0|4|MIN|MAX F|T -> OUTSIDE", "share 0 1|3 F -> 1|6",
            "share 0 1|3 T -> 1|13");
        edge("20: UNKNOWN before OUTSIDE", FIVE, "share -1|5 0|4 F|T -> UNKNOWN");
        edge("20: 0, if it is not there", FIVE, "share 2|3 1|2|3 T -> 0", "share 2|3 1|2|3 F -> 1",
            "share 2|3 0|4 F|T -> OUTSIDE");
        edge("20: it alone", "I0P0110", "share 0 1 T -> 1", "share 0 2 T -> 2", "share 0 3 T -> 3",
            "share 0 1|2|3 F -> 1");
        edge("20: 0 is 0 by 1", "I0P0000P0010", "share 0 1|2|3 T -> 0", "share 0 1|2|3 F -> 1");
        edge("20: a WIDOW alone, and behind another one", "I0P0011P0000", "share 0 1 T -> 0", "share 0 2 T -> 1",
            "share 0 2 F -> 2", "share 1 2 T -> 1", "share 1 2 F -> 2");
        edge("20: in least terms", "I0P0010P0010P0010P0010P0010P0010", "share 0|5 1 T -> 1", "share 0|5 1|3 F -> 6");
        edge("20: two of six", "I0P0010P0010P0000P0000P0000P0000", "share 0|1 1 T -> 1", "share 0|1 1|3 F -> 2",
            "share 2|5 1|3 T -> 0");
        edge("20: from now", "I0P0010P0020", "say 0 -> 1", "share 0 1 T -> 0", "share 1 1 T -> 1", "share 0 3 T -> 0");
    }

    private static void rests() {
        edge("21: UNKNOWN: both", FIVE, "rests -1|5|6|MIN|MAX 0 0 0 0|1 -> UNKNOWN",
            "rests 0 -1|5|6|MIN|MAX 0 0 0|1 -> UNKNOWN");
        edge("21: OUTSIDE: both are one", FIVE, "rests 0 0 0 0 0|1 -> OUTSIDE", "rests 4 4 0 0 0|1 -> OUTSIDE");
        edge("21: OUTSIDE: x, y", FIVE, "rests 0 1 -1|10|MIN|MAX 0 0|1 -> OUTSIDE",
            "rests 0 1 0 -1|10|MIN|MAX 0|1 -> OUTSIDE");
        edge("21: OUTSIDE: what", FIVE, "rests 0 1 0 0 -1|2|MIN|MAX -> OUTSIDE");
        edge("21: UNKNOWN before OUTSIDE", FIVE, "rests 5 5 0 0 0 -> UNKNOWN", "rests 5 0 10 0 0 -> UNKNOWN",
            "rests 0 5 0 -1 0 -> UNKNOWN", "rests -1 0 0 0 2 -> UNKNOWN");
        edge("21: each 1 for each time: none speaks", "I0P0100P0100", "rests 0 1 0|9 0|9 0 -> 1",
            "rests 0 1 0|9 0|9 1 -> 0");
        edge("21: 3 times and no more", "I0P0120P0100", "rests 0 1 8 0 0 -> 1", "rests 0 1 8 0 1 -> 30",
            "rests 1 0 0 8 0 -> 1", "rests 1 0 0 8 1 -> 3");
        edge("21: 9 and 0 are 9 apart", "I0P0180P0100", "rests 0 1 9 0 0 -> 1", "rests 0 1 9 0 1 -> 10",
            "rests 1 0 0 9 1 -> 1");
        edge("21: NONE", "I5P5130P5191P9200P5302P0053P5172", "rests 0 5 6 2 0 -> 0", "rests 0 5 6 2 1 -> NONE");
        edge("21: all 16", "I0P0110P0110", "rests 0 1 9 9 0 -> 16", "rests 0 1 9 9 1 -> 0");
        edge("21: as if PLAIN, at the MARKET", "I0P5112P5113P5111", "rests 0 1 9 9 0 -> 16", "rests 2 0 9 9 0 -> 16");
        edge("21: from now", "I0P0110P0100P0090", "rests 0 1 9 0 1 -> 0", "say 2 -> 9", "rests 0 1 0 0 0 -> 1",
            "rests 0 1 0 0 1 -> 10");
        edge("21: nobody", null, "rests 0 0|1 0 0 0|1 -> UNKNOWN");
    }

    private static void chance() {
        edge("22: n (1 to 4)", "I0P0110", "chance -1|0|5|MIN|MAX 0 F|T -> OUTSIDE", "chance 1 1 F|T -> 1",
            "chance 4 4 F|T -> 1", "chance 4 3 T -> 0");
        edge("22: w", "I0P0190", "chance 1 -1|10|MIN|MAX F|T -> OUTSIDE", "chance 1 9 T -> 1", "chance 1 0 T -> 0");
        edge("22: 0, if nobody is there and it is not w; 1, if it is", "I0P9010", "chance 1|4 0 F|T -> 1",
            "chance 1|4 1|9 T -> 0", "chance 1|4 1|9 F -> 1", "fetch 0 -> 9", "say 0 -> 1", "send 0 -> 0",
            "chance 1|4 1 F|T -> 1", "chance 1|4 0 T -> 0");
        edge("22: nobody, n and w as before", null, "chance 0|5 0 F|T -> OUTSIDE", "chance 1 -1|10 F|T -> OUTSIDE");
        edge("22: in least terms", "I0P0010P0000", "chance 1|2|3|4 0|1 T -> 1", "chance 1|2|3|4 0|1 F -> 2",
            "chance 4 2 T -> 0", "chance 4 2 F -> 1");
        edge("22: six by four", "I0P0110P0100P0100P0100P0100P0100", "chance 4 4 T -> 1", "chance 4 4 F -> 1296",
            "chance 4 0 T -> 625", "chance 4 0 F -> 1296", "chance 4 1 T -> 125", "chance 4 1 F -> 324");
        edge("22: who MAY not then does not", "I0P0011P0000", "chance 1 0 F|T -> 1", "chance 2 1 T -> 1",
            "chance 2 1 F -> 4", "chance 2 0 T -> 3");
        edge("22: an OLD one, once", "I0P0113", "chance 1|2|4 1 F|T -> 1", "say 0 -> 1", "chance 1|4 1 F|T -> 1",
            "chance 1 2 T -> 0");
    }

    private static void seed() {
        edge("23: 0 at first; any long", null, "seed LMIN -> 0", "seed LMAX -> LMIN", "seed -1 -> LMAX", "seed 0 -> -1",
            "seed 0 -> 0");
        edge("23: what it was, whatever was done", FIVE, "seed 7 -> 0", "keep 0 -> 0", "say 0 -> 3", "undo -> 0",
            "say 0 -> 3", "seed 8 -> 7", "again 0 -> 0", "island -> 5", "wipe -> 27", "seed 0 -> 8");
    }

    private static void nights() {
        edge("24: m times (1 to 30)", "I0P0090", "say 0 -> 9", "nights -1|0|31|MIN|MAX -> OUTSIDE", "seed 0 -> 0",
            "nights 1 -> 9", "nights 30 -> 270");
        edge("24: what is refused leaves THE SEED", null, "seed 5 -> 0", "nights 0|31 -> OUTSIDE", "seed 0 -> 5");
        edge("24: 64 bits, wrapping", null, "nights 1 -> 0", "seed 2 -> 1442695040888963407", "nights 1 -> 0",
            "seed -1 -> -4275776585127002199", "nights 1 -> 0", "seed LMIN -> -4921441182957829598", "nights 1 -> 0",
            "seed LMAX -> -7780676995965812401", "nights 1 -> 0", "seed 0 -> 4301930853896946210");
        upperBits();
        edge("24: who is not, and who MAY not, does not", "I0P0110P9110P0111", "say 0 -> 1", "say 2 -> 2",
            "seed " + before(1) + " -> 0", "nights 1 -> 2", "seed " + before(2), "nights 1 -> 2",
            "seed " + before(4), "nights 1 -> 2", "seed " + before(0), "nights 1 -> 3");
        nothingButTheSeed();
    }

    /** A seed whose next one calls the person. */
    private static long before(int person) {
        for (long seed = 0; seed < 10000; seed++) {
            if (next(seed) < 0 && (next(seed) >>> 33) % 6 == person) {
                return seed;
            }
        }
        return 0;
    }

    private static long next(long seed) {
        return seed * 6364136223846793005L + 1442695040888963407L;
    }

    private static void upperBits() {
        long[] starts = {0, 1, 2, 3, 4, 5, 6, 7, -1, -2, Long.MIN_VALUE, Long.MAX_VALUE, 1L << 32, 1L << 33, 1L << 62};
        for (long start : starts) {
            long who = (next(start) >>> 33) % 6;
            edge("24: its upper 31 bits by 6, what is left", SIX_SETS, "seed " + start + " -> 0",
                "nights 1 -> " + (who + 1), "seed 0 -> " + next(start));
        }
    }

    private static void nothingButTheSeed() {
        long seed = 5;
        for (int night = 0; night < 30; night++) {
            seed = next(seed);
        }
        List<Call> nights = calls("say 0", "keep 0", "fetch 3", "seed 5", "nights 30");
        List<Call> none = calls("say 0", "keep 0", "fetch 3", "seed " + seed);
        same("24: nothing changes but THE SEED", FIVE, nights, none);
    }

    // ---- promises 25 to 27: slots

    private static void keep() {
        edge("25: SLOTS 0 to 1", FIVE, "keep -1|2|3|MIN|MAX -> UNKNOWN", "keep 0|1 -> 0", "fetch 2 -> 3", "keep 1 -> 3",
            "keep 2 -> UNKNOWN", "again 0 -> 0", "again 1 -> 3");
        edge("25: what is refused is not kept", FIVE, "keep -1|2 -> UNKNOWN", "again 0|1 -> STATE");
        edge("25: kept anew", FIVE, "say 0 -> 3", "keep 0 -> 1", "say 4 -> 7", "keep 0 -> 2", "undo -> 1", "again 0 -> 2",
            "count 3 -> 7");
        edge("25: THE ROW of ACTS goes on", FIVE, "say 0 -> 3", "keep 0 -> 1", "count 8 -> 1", "undo -> 0", "keep 1 -> 0",
            "again 0 -> 1", "count 3 -> 3");
        edge("25: nobody", null, "keep 0|1 -> 0", "again 0|1 -> 0", "keep 2 -> UNKNOWN");
    }

    private static void again() {
        edge("26: UNKNOWN", FIVE, "keep 0|1 -> 0", "say 0 -> 3", "again -1|2|3|MIN|MAX -> UNKNOWN", "count 8 -> 1");
        edge("26: STATE: none were kept", FIVE, "say 0 -> 3", "again 0|1 -> STATE", "count 8 -> 1", "keep 1 -> 1",
            "again 0 -> STATE", "again 1 -> 1");
        edge("26: UNKNOWN before STATE", FIVE, "again -1|2|MIN|MAX -> UNKNOWN");
        edge("26: THE ROW of ACTS is empty", FIVE, "say 0 -> 3", "keep 0 -> 1", "say 4 -> 7", "again 0 -> 1",
            "count 8 -> 0", "undo -> STATE", "count 3 -> 3", "say 4 -> 7", "undo -> 0");
        edge("26: who is where", FIVE, "fetch 2 -> 3", "keep 0 -> 3", "send 2 -> 3", "fetch 3 -> 5", "again 0 -> 3",
            "count 5 -> 23", "person 2 4 -> 1", "person 3 4 -> 0");
        edge("26: SENTENCES", FIVE, "name 0 3 9 -> 3", "keep 0 -> 0", "name 0 2 1 -> 39", "again 0 -> 0",
            "person 0 1 -> 3", "person 0 2 -> 9");
        edge("26: THE SENSE, who spoke, how often", "I0P0110P0111P0113", "say 0 -> 1", "keep 0 -> 1", "say 1 -> 2",
            "say 2 -> 3", "again 0 -> 1", "count 3 -> 1", "count 7 -> 0", "person 0 6 -> 1", "person 1|2 6 -> 0",
            "count 6 -> 7");
        edge("26: nobody spoke", "I0P0110P0111", "keep 0 -> 0", "say 0 -> 1", "again 0 -> 0", "count 7 -> NONE",
            "say 1 -> STATE");
        edge("26: what an ECHO makes", "I0P0120P0200P0300", "keep 1 -> 0", "say 0 -> 2", "keep 0 -> 1", "say 1 -> 7",
            "again 0 -> 1", "say 2 -> 4", "again 1 -> 0", "say 2 -> 0");
        edge("26: THE TEXT and THE SEED stay", FIVE, "keep 0 -> 0", "write 80 -> 28", "seed 3 -> 0", "again 0 -> 0",
            "count 0 -> 28", "seed 0 -> 3");
        edge("26: as often as one likes", FIVE, "say 0 -> 3", "keep 0 -> 1", "say 4 -> 7", "again 0 -> 1", "say 4 -> 7",
            "again 0 -> 1", "again 0 -> 1", "count 3 -> 3");
        edge("26: gone with THE ISLAND", FIVE, "keep 0|1 -> 0", "island -> 5", "again 0|1 -> STATE");
    }

    private static void count() {
        edge("27: OUTSIDE", FIVE, "count -1|9|10|MIN|MAX -> OUTSIDE", "count 0 -> 27", "count 8 -> 0");
        edge("27: the most letters", null, "write 0 *40", "count 0 -> 40");
        edge("27: all bits", SIX_SETS, "count 1 -> 6", "count 5|6 -> 63");
        edge("27: no bits", "I9P0010", "count 5|6 -> 0", "count 2 -> 9");
        edge("27: who spoke last", FIVE, "count 7 -> NONE", "say 0 -> 3", "count 7 -> 0", "say 4 -> 7", "count 7 -> 4",
            "undo -> 1", "undo -> 0", "count 7 -> NONE");
    }

    // ---- how an edge is tried

    private static void edge(String sentence, String island, String... lines) {
        List<Call> calls = calls(lines);
        OneSentence x = on(island);
        for (int i = 0; i < calls.size(); i++) {
            Call call = calls.get(i);
            long got = answer(x, call);
            boolean isRefused = call.due() != null && refusal(call) != null;
            if (call.due() != null) {
                due(sentence + ": " + call + ", call " + i, got, call.due());
            }
            if (isRefused) {
                refused.add(call.name() + " " + refusal(call));
            }
            if (isRefused || !ACTING.contains(call.name())) {
                same(sentence + ": " + call, island, calls.subList(0, i + 1), calls.subList(0, i));
            }
        }
    }

    private static String refusal(Call call) {
        for (String name : REFUSALS) {
            if (!call.name().equals("seed") && number(name) == call.due()) {
                return name;
            }
        }
        return null;
    }

    /** Behind the one calls and the other the object is the same, as far as more calls can tell. */
    private static void same(String sentence, String island, List<Call> one, List<Call> other) {
        for (int probe = 0; probe < 5; probe++) {
            String first = probed(island, one, probe);
            String second = probed(island, other, probe);
            if (!first.equals(second)) {
                fault(sentence + " changed " + second + " to " + first + " (probe " + probe + ")");
            }
        }
    }

    private static String probed(String island, List<Call> calls, int probe) {
        OneSentence x = on(island);
        for (Call call : calls) {
            answer(x, call);
        }
        StringBuilder told = new StringBuilder();
        switch (probe) {
            case 0: tellAll(x, told); break;
            case 1: tellSayings(x, told); break;
            case 2: tellActs(x, told); break;
            case 3: tellSlots(x, told); break;
            default: tellTextAndSeed(x, told); break;
        }
        return told.toString();
    }

    private static void tellAll(OneSentence x, StringBuilder told) {
        for (int what = 0; what <= 8; what++) {
            told.append(x.count(what)).append(' ');
        }
        for (int p = 0; p < 6; p++) {
            for (int what = 0; what <= 6; what++) {
                told.append(x.person(p, what)).append(' ');
            }
        }
    }

    private static void tellSayings(OneSentence x, StringBuilder told) {
        for (int p = 0; p < x.count(1); p++) {
            told.append(x.comesTo(1, p + 1, 0)).append(' ').append(x.comesTo(2, 11 * (p + 1), 0)).append(' ');
        }
        // As an ECHO, and as if PLAIN, whoever it is tells what was said last.
        x.name(0, 3, 0);
        x.name(1, 1, 0);
        for (int w = 0; w <= 9; w++) {
            told.append(x.rests(0, 1, w, 0, 0)).append(' ').append(x.rests(0, 1, w, 0, 1)).append(' ');
        }
        told.append(x.quarrel(0, 1, false)).append(' ').append(x.quarrel(0, 1, true));
    }

    private static void tellActs(OneSentence x, StringBuilder told) {
        int people = x.count(1);
        for (int i = 0; i <= 14; i++) {
            told.append(x.undo()).append(' ');
            for (int what = 3; what <= 8; what++) {
                told.append(x.count(what)).append(' ');
            }
            for (int p = 0; p < people; p++) {
                told.append(x.person(p, 1)).append(x.person(p, 2)).append(x.person(p, 6)).append(' ');
            }
        }
    }

    private static void tellSlots(OneSentence x, StringBuilder told) {
        for (int slot = 0; slot <= 1; slot++) {
            told.append(x.again(slot)).append(' ');
            tellAll(x, told);
        }
    }

    private static void tellTextAndSeed(OneSentence x, StringBuilder told) {
        told.append(x.seed(0)).append(' ').append(x.fault()).append(' ').append(x.island()).append(' ');
        tellAll(x, told);
        told.append(x.wipe());
    }

    private static void tell(OneSentence x, String text) {
        x.wipe();
        for (int i = 0; i < text.length(); i++) {
            x.write(text.charAt(i));
        }
    }

    private static OneSentence on(String island) {
        OneSentence x = new OneSentence();
        if (island != null) {
            tell(x, island);
            due("island() of " + island, x.island(), (island.length() - 2) / 5);
        }
        return x;
    }

    private static String[] with(String[] some, String... more) {
        String[] all = Arrays.copyOf(some, some.length + more.length);
        System.arraycopy(more, 0, all, some.length, more.length);
        return all;
    }

    private static void due(String call, long got, long want) {
        if (got != want) {
            fault(call + " answered " + got + ", due is " + want);
        }
    }

    private static void fault(String what) {
        wrong++;
        System.out.println(what);
    }

    // ---- how calls are told

    private static List<Call> calls(String... lines) {
        List<Call> calls = new ArrayList<>();
        for (String line : lines) {
            if (line.startsWith("text ")) {
                calls.add(new Call("text", line.substring(5).chars().asLongStream().toArray(), null));
            } else {
                addCalls(line, calls);
            }
        }
        return calls;
    }

    private static void addCalls(String line, List<Call> calls) {
        String[] sides = line.split(" -> ");
        String[] words = sides[0].split(" ");
        int times = 1;
        if (words[words.length - 1].startsWith("*")) {
            times = Integer.parseInt(words[words.length - 1].substring(1));
            words = Arrays.copyOf(words, words.length - 1);
        }
        List<long[]> all = new ArrayList<>();
        all.add(new long[0]);
        for (int i = 1; i < words.length; i++) {
            all = eachWith(all, words[i].split("\\|"));
        }
        String[] dues = sides.length > 1 ? sides[1].split("\\|") : null;
        for (int i = 0; i < all.size() * times; i++) {
            Long due = dues == null ? null : (Long) number(dues[i % dues.length]);
            calls.add(new Call(words[0], all.get(i % all.size()), due));
        }
    }

    private static List<long[]> eachWith(List<long[]> begun, String[] words) {
        List<long[]> all = new ArrayList<>();
        for (long[] with : begun) {
            for (String word : words) {
                long[] more = Arrays.copyOf(with, with.length + 1);
                more[with.length] = number(word);
                all.add(more);
            }
        }
        return all;
    }

    private static long number(String word) {
        switch (word) {
            case "UNKNOWN": return UNKNOWN;
            case "OUTSIDE": return OUTSIDE;
            case "STATE": return STATE;
            case "FULL": return FULL;
            case "NONE": return NONE;
            case "MIN": return Integer.MIN_VALUE;
            case "MAX": return Integer.MAX_VALUE;
            case "LMIN": return Long.MIN_VALUE;
            case "LMAX": return Long.MAX_VALUE;
            case "T": return 1;
            case "F": return 0;
            default: return Long.parseLong(word);
        }
    }

    private static long answer(OneSentence x, Call call) {
        long[] with = call.with();
        int a = with.length > 0 ? (int) with[0] : 0;
        int b = with.length > 1 ? (int) with[1] : 0;
        int c = with.length > 2 ? (int) with[2] : 0;
        switch (call.name()) {
            case "text": return written(x, with);
            case "write": return x.write(a);
            case "wipe": return x.wipe();
            case "fault": return x.fault();
            case "island": return x.island();
            case "person": return x.person(a, b);
            case "fetch": return x.fetch(a);
            case "send": return x.send(a);
            case "say": return x.say(a);
            case "name": return x.name(a, b, c);
            case "undo": return x.undo();
            case "comesTo": return x.comesTo(a, b, c);
            case "fewest": return x.fewest(a, b == 1);
            case "can": return x.can(a);
            case "toFetch": return x.toFetch(a, b == 1);
            case "needed": return x.needed();
            case "naming": return x.naming(a, b == 1);
            case "spoken": return x.spoken(a, b, c);
            case "quarrel": return x.quarrel(a, b, c == 1);
            case "share": return x.share(a, b, c == 1);
            case "rests": return x.rests(a, b, c, (int) with[3], (int) with[4]);
            case "chance": return x.chance(a, b, c == 1);
            case "seed": return x.seed(with[0]);
            case "nights": return x.nights(a);
            case "keep": return x.keep(a);
            case "again": return x.again(a);
            case "count": return x.count(a);
            default: fault("there is no call " + call); return 0;
        }
    }

    private static long written(OneSentence x, long[] letters) {
        x.wipe();
        for (long letter : letters) {
            x.write((int) letter);
        }
        return letters.length;
    }
}
