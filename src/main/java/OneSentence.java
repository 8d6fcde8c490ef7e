/**
 * Islanders of whom each has one sentence for life: what it makes of the sense, who may say it,
 * and what can be told, planned and reckoned with it. The document is ../shared/DOC.md.
 */
public final class OneSentence {
    public static final int UNKNOWN = -1, OUTSIDE = -2, STATE = -3, FULL = -4, NONE = -9;

    private static final int LETTERS = 40, PEOPLE = 6, ACTS = 14, SLOTS = 2, SENSES = 10;
    // The seventh seat is for the one PERSON more of NAMING; nobody else ever sits there.
    private static final int ONE_MORE = 6, SEATS = 7;
    private static final int HEAD = 2, PERSON_LETTERS = 5;
    private static final int SET = 0, ADD = 1, NOT = 2, ECHO = 3, SENTENCES = 40;
    private static final int WIDOW = 1, TWICE = 2, OLD = 3;
    private static final int LONGEST_ROW = 5, FEWEST_LONGEST = 4, CAN_LONGEST = 3;
    private static final int NUMBERS = 4;
    private static final int NIGHTS = 30;
    private static final long SEED_TIMES = 6364136223846793005L, SEED_MORE = 1442695040888963407L;
    private static final int[] ORDERS = {1, 1, 2, 6, 24, 120, 720};

    private final char[] text = new char[LETTERS];
    private int letters;

    private int market;
    private int people;
    private final int[] home = new int[SEATS];
    private final int[] kind = new int[SEATS];
    private final Day today = new Day();

    private final Day[] past = new Day[ACTS];
    private int firstAct;
    private int acts;

    private final Day[] slots = new Day[SLOTS];
    private final boolean[] isKept = new boolean[SLOTS];
    private long theSeed;

    private final Talk trial = new Talk();
    private final Rows rows = new Rows();
    private int oneMoreSentence;
    private final int[] seenBehind = new int[SENSES];
    private final int[] outcomes = new int[NUMBERS * NUMBERS];

    public OneSentence() {
        for (int i = 0; i < past.length; i++) {
            past[i] = new Day();
        }
        for (int i = 0; i < slots.length; i++) {
            slots[i] = new Day();
        }
    }

    // ---- the island

    public int write(int letter) {
        if (letter < 0 || letter > 255) {
            return OUTSIDE;
        }
        if (letters < 0 || letters >= text.length) {
            return FULL;
        }
        text[letters] = (char) letter;
        letters++;
        return letters;
    }

    public int wipe() {
        int was = letters;
        letters = 0;
        return was;
    }

    public int fault() {
        return firstFault();
    }

    public int island() {
        if (firstFault() != NONE) {
            return STATE;
        }
        market = figureIn(1);
        people = (letters - HEAD) / PERSON_LETTERS;
        today.begin();
        for (int person = 0; person < people; person++) {
            settle(person, HEAD + PERSON_LETTERS * person);
        }
        forgetActs();
        for (int i = 0; i < isKept.length; i++) {
            isKept[i] = false;
        }
        return people;
    }

    public int person(int person, int what) {
        if (!isThere(person)) {
            return UNKNOWN;
        }
        switch (what) {
            case 0: return home[person];
            case 1: return today.sentence[person] / 10;
            case 2: return today.sentence[person] % 10;
            case 3: return kind[person];
            case 4: return has(today.at, person) ? 1 : 0;
            case 5: return maySpeak(today.talk, today.at, person) ? 1 : 0;
            case 6: return today.talk.times[person];
            default: return OUTSIDE;
        }
    }

    // ---- acts

    public int fetch(int person) {
        if (!isThere(person)) {
            return UNKNOWN;
        }
        if (has(today.at, person)) {
            return STATE;
        }
        remember();
        today.at |= 1 << person;
        today.hour += hoursFrom(person);
        return today.hour;
    }

    public int send(int person) {
        if (!isThere(person)) {
            return UNKNOWN;
        }
        if (!has(today.at, person) || home[person] == market) {
            return STATE;
        }
        remember();
        today.at &= ~(1 << person);
        return Integer.bitCount(today.at);
    }

    public int say(int person) {
        if (!isThere(person)) {
            return UNKNOWN;
        }
        if (!maySpeak(today.talk, today.at, person)) {
            return STATE;
        }
        remember();
        speak(today.talk, person);
        today.hour++;
        return today.talk.sense;
    }

    public int name(int person, int sort, int v) {
        if (!isThere(person)) {
            return UNKNOWN;
        }
        if (sort < SET || sort > ECHO || v < 0 || v > 9) {
            return OUTSIDE;
        }
        int was = today.sentence[person];
        if (was == 10 * sort + v) {
            return STATE;
        }
        remember();
        today.sentence[person] = 10 * sort + v;
        return was;
    }

    public int undo() {
        if (acts <= 0) {
            return STATE;
        }
        acts--;
        int last = (firstAct + acts) % ACTS;
        if (last >= 0 && last < past.length) {
            today.become(past[last]);
        }
        return acts;
    }

    // ---- sayings

    public int comesTo(int n, int row, int what) {
        if (n < 1 || n > LONGEST_ROW || row < 0 || row >= power(10, n) || what < 0 || what > 1) {
            return OUTSIDE;
        }
        int place = play(n, row, today.at);
        if (what == 1) {
            return place;
        }
        return place == NONE ? trial.sense : STATE;
    }

    public int fewest(int w, boolean row) {
        if (!isSense(w)) {
            return OUTSIDE;
        }
        rows.by(today.at);
        for (int n = 0; n <= FEWEST_LONGEST; n++) {
            int least = leastRow(n, w);
            if (least != NONE) {
                return row ? least : n;
            }
        }
        return NONE;
    }

    public int can(int n) {
        if (n < 0 || n > CAN_LONGEST) {
            return OUTSIDE;
        }
        return sensesBy(today.at, n);
    }

    public int toFetch(int w, boolean hours) {
        if (!isSense(w)) {
            return OUTSIDE;
        }
        rows.by(everybody());
        int best = NONE;
        for (int n = 0; n <= FEWEST_LONGEST; n++) {
            best = bestFetch(n, w, best);
        }
        if (best == NONE) {
            return NONE;
        }
        return hours ? hoursFor(best) : best;
    }

    public int needed() {
        int there = today.at;
        int all = sensesBy(there, CAN_LONGEST);
        int best = there;
        for (int some = 0; some <= there; some++) {
            if ((some & ~there) == 0 && Integer.bitCount(some) < Integer.bitCount(best)
                    && sensesBy(some, CAN_LONGEST) == all) {
                best = some;
            }
        }
        return best;
    }

    public int naming(int n, boolean many) {
        if (n < 1 || n > CAN_LONGEST) {
            return OUTSIDE;
        }
        int best = 0;
        int most = 0;
        for (int sentence = 0; sentence < SENTENCES; sentence++) {
            oneMoreSentence = sentence;
            int senses = Integer.bitCount(sensesBy(today.at | 1 << ONE_MORE, n));
            if (senses > most) {
                most = senses;
                best = sentence;
            }
        }
        return many ? most : best;
    }

    // ---- who spoke

    public int spoken(int n, int w, int what) {
        if (n < 1 || n > 4 || !isSense(w) || what < 0 || what > 2) {
            return OUTSIDE;
        }
        rows.by(today.at);
        int found = 0;
        int inAll = today.at;
        int inNone = today.at;
        int many = rows.many(n);
        for (int i = 0; i < many; i++) {
            int row = rows.told(i, n);
            if (isTold(n, row, today.at, w)) {
                found++;
                inAll &= speakersIn(n, row);
                inNone &= ~speakersIn(n, row);
            }
        }
        if (what == 0) {
            return found;
        }
        if (found == 0) {
            return NONE;
        }
        return what == 1 ? inAll : inNone;
    }

    public int quarrel(int one, int other, boolean first) {
        if (!isThere(one) || !isThere(other)) {
            return UNKNOWN;
        }
        if (one == other) {
            return OUTSIDE;
        }
        trial.become(today.talk);
        for (int sense = 0; sense < seenBehind.length; sense++) {
            seenBehind[sense] = NONE;
        }
        // Of eleven senses two are alike, so that the tenth turn is the last one needed.
        for (int turn = 0; turn <= SENSES; turn++) {
            int sense = trial.sense;
            if (!isSense(sense)) {
                return NONE;
            }
            if (seenBehind[sense] != NONE) {
                return first ? seenBehind[sense] : turn;
            }
            seenBehind[sense] = turn;
            trial.utter(one, sentenceOf(one), 1);
            trial.utter(other, sentenceOf(other), 1);
        }
        return NONE;
    }

    // ---- shares, rests, chances

    public int share(int person, int n, boolean upper) {
        if (!isThere(person)) {
            return UNKNOWN;
        }
        if (n < 1 || n > CAN_LONGEST) {
            return OUTSIDE;
        }
        if (!has(today.at, person)) {
            return fraction(0, 1, upper);
        }
        int others = today.at & ~(1 << person);
        int size = Integer.bitCount(others);
        int sum = 0;
        for (int some = 0; some <= others; some++) {
            if ((some & ~others) == 0) {
                int before = Integer.bitCount(some);
                sum += orders(before) * orders(size - before) * gain(some, person, n);
            }
        }
        return fraction(sum, orders(size + 1), upper);
    }

    public int rests(int one, int other, int x, int y, int what) {
        if (!isThere(one) || !isThere(other)) {
            return UNKNOWN;
        }
        if (one == other || !isSense(x) || !isSense(y) || what < 0 || what > 1) {
            return OUTSIDE;
        }
        playOutcomes(one, other);
        int found = 0;
        int first = NONE;
        for (int a = 0; a < NUMBERS; a++) {
            for (int b = 0; b < NUMBERS; b++) {
                if (isRest(a, b, x, y)) {
                    first = found == 0 ? 10 * a + b : first;
                    found++;
                }
            }
        }
        return what == 0 ? found : first;
    }

    public int chance(int n, int w, boolean upper) {
        if (n < 1 || n > 4 || !isSense(w)) {
            return OUTSIDE;
        }
        if (today.at == 0) {
            return fraction(today.talk.sense == w ? 1 : 0, 1, upper);
        }
        rows.by(today.at);
        int found = 0;
        int many = rows.many(n);
        for (int i = 0; i < many; i++) {
            playWhoMay(n, rows.told(i, n));
            if (trial.sense == w) {
                found++;
            }
        }
        return fraction(found, many, upper);
    }

    public long seed(long v) {
        long was = theSeed;
        theSeed = v;
        return was;
    }

    public int nights(int m) {
        if (m < 1 || m > NIGHTS) {
            return OUTSIDE;
        }
        trial.become(today.talk);
        int sum = 0;
        for (int night = 0; night < m; night++) {
            theSeed = theSeed * SEED_TIMES + SEED_MORE;
            int person = (int) ((theSeed >>> 33) % PEOPLE);
            if (maySpeak(trial, today.at, person)) {
                speak(trial, person);
            }
            sum += trial.sense;
        }
        return sum;
    }

    // ---- slots

    public int keep(int slot) {
        if (slot < 0 || slot >= SLOTS) {
            return UNKNOWN;
        }
        slots[slot].become(today);
        isKept[slot] = true;
        return today.hour;
    }

    public int again(int slot) {
        if (slot < 0 || slot >= SLOTS) {
            return UNKNOWN;
        }
        if (!isKept[slot]) {
            return STATE;
        }
        today.become(slots[slot]);
        forgetActs();
        return today.hour;
    }

    public int count(int what) {
        switch (what) {
            case 0: return letters;
            case 1: return people;
            case 2: return market;
            case 3: return today.talk.sense;
            case 4: return today.hour;
            case 5: return today.at;
            case 6: return whoMay();
            case 7: return today.talk.last;
            case 8: return acts;
            default: return OUTSIDE;
        }
    }

    // ---- the text

    private int firstFault() {
        for (int place = 0; place < letters && place < text.length; place++) {
            if (!fits(place, text[place])) {
                return place;
            }
        }
        boolean isAtEnd = letters >= HEAD && (letters - HEAD) % PERSON_LETTERS == 0;
        return isAtEnd ? NONE : letters;
    }

    private static boolean fits(int place, char letter) {
        if (place == 0) {
            return letter == 'I';
        }
        if (place == 1) {
            return isFigure(letter, 9);
        }
        if (place >= HEAD + PEOPLE * PERSON_LETTERS) {
            return false;
        }
        switch ((place - HEAD) % PERSON_LETTERS) {
            case 0: return letter == 'P';
            case 2: return isFigure(letter, ECHO);
            case 4: return isFigure(letter, OLD);
            default: return isFigure(letter, 9);
        }
    }

    private static boolean isFigure(char letter, int most) {
        return letter >= '0' && letter <= '0' + most;
    }

    private int figureIn(int place) {
        return place >= 0 && place < text.length ? text[place] - '0' : 0;
    }

    private void settle(int person, int place) {
        if (person < 0 || person >= PEOPLE) {
            return;
        }
        home[person] = figureIn(place + 1);
        today.sentence[person] = 10 * figureIn(place + 2) + figureIn(place + 3);
        kind[person] = figureIn(place + 4);
        if (home[person] == market) {
            today.at |= 1 << person;
        }
    }

    // ---- people

    private boolean isThere(int person) {
        return person >= 0 && person < people && person < PEOPLE;
    }

    private int everybody() {
        return (1 << people) - 1;
    }

    private static boolean has(int bits, int person) {
        return (bits >> person & 1) == 1;
    }

    private static boolean isSense(int w) {
        return w >= 0 && w < SENSES;
    }

    private boolean maySpeak(Talk talk, int at, int person) {
        if (person < 0 || person >= SEATS || !has(at, person)) {
            return false;
        }
        if (kind[person] == WIDOW) {
            return talk.last != NONE && talk.last != person;
        }
        return kind[person] != OLD || talk.times[person] == 0;
    }

    private int whoMay() {
        int bits = 0;
        for (int person = 0; person < people; person++) {
            if (maySpeak(today.talk, today.at, person)) {
                bits |= 1 << person;
            }
        }
        return bits;
    }

    private int sentenceOf(int person) {
        if (person == ONE_MORE) {
            return oneMoreSentence;
        }
        return person >= 0 && person < PEOPLE ? today.sentence[person] : NONE;
    }

    private void speak(Talk talk, int person) {
        boolean isTwice = person >= 0 && person < SEATS && kind[person] == TWICE;
        talk.utter(person, sentenceOf(person), isTwice ? 2 : 1);
    }

    private int hoursFrom(int person) {
        return isThere(person) ? Math.abs(home[person] - market) : 0;
    }

    private int hoursFor(int bits) {
        int hours = 0;
        for (int person = 0; person < people; person++) {
            if (has(bits, person)) {
                hours += hoursFrom(person);
            }
        }
        return hours;
    }

    // ---- the row of acts

    private void remember() {
        int place = (firstAct + acts) % ACTS;
        if (place >= 0 && place < past.length) {
            past[place].become(today);
        }
        if (acts < ACTS) {
            acts++;
        } else {
            firstAct = (firstAct + 1) % ACTS;
        }
    }

    private void forgetActs() {
        firstAct = 0;
        acts = 0;
    }

    // ---- rows of sayings, played on the trial

    private int play(int n, int row, int at) {
        trial.become(today.talk);
        for (int place = 0; place < n; place++) {
            int person = personIn(n, row, place);
            if (!maySpeak(trial, at, person)) {
                return place;
            }
            speak(trial, person);
        }
        return NONE;
    }

    private void playWhoMay(int n, int row) {
        trial.become(today.talk);
        for (int place = 0; place < n; place++) {
            int person = personIn(n, row, place);
            if (maySpeak(trial, today.at, person)) {
                speak(trial, person);
            }
        }
    }

    private boolean isTold(int n, int row, int at, int w) {
        return play(n, row, at) == NONE && trial.sense == w;
    }

    private static int personIn(int n, int row, int place) {
        int rest = row;
        for (int behind = n - 1; behind > place; behind--) {
            rest /= 10;
        }
        return rest % 10 - 1;
    }

    private static int speakersIn(int n, int row) {
        int bits = 0;
        for (int place = 0; place < n; place++) {
            bits |= 1 << personIn(n, row, place);
        }
        return bits;
    }

    private int leastRow(int n, int w) {
        int many = rows.many(n);
        for (int i = 0; i < many; i++) {
            int row = rows.told(i, n);
            if (isTold(n, row, today.at, w)) {
                return row;
            }
        }
        return NONE;
    }

    private int sensesBy(int at, int n) {
        rows.by(at);
        int bits = 0;
        for (int length = 0; length <= n; length++) {
            int many = rows.many(length);
            for (int i = 0; i < many; i++) {
                if (play(length, rows.told(i, length), at) == NONE) {
                    bits |= 1 << trial.sense;
                }
            }
        }
        return bits;
    }

    // Each who is fetched costs hours: the best are exactly those who speak in some row and are away.
    private int bestFetch(int n, int w, int bestSoFar) {
        int best = bestSoFar;
        int many = rows.many(n);
        for (int i = 0; i < many; i++) {
            int row = rows.told(i, n);
            if (isTold(n, row, everybody(), w)) {
                int away = speakersIn(n, row) & ~today.at;
                if (best == NONE || isCheaper(away, best)) {
                    best = away;
                }
            }
        }
        return best;
    }

    private boolean isCheaper(int some, int than) {
        int hours = Integer.compare(hoursFor(some), hoursFor(than));
        if (hours != 0) {
            return hours < 0;
        }
        int size = Integer.compare(Integer.bitCount(some), Integer.bitCount(than));
        return size != 0 ? size < 0 : some < than;
    }

    // ---- shares, rests and fractions

    private int gain(int some, int person, int n) {
        int with = Integer.bitCount(sensesBy(some | 1 << person, n));
        return with - Integer.bitCount(sensesBy(some, n));
    }

    private static int orders(int size) {
        return size >= 0 && size < ORDERS.length ? ORDERS[size] : 1;
    }

    private void playOutcomes(int one, int other) {
        for (int pair = 0; pair < outcomes.length; pair++) {
            trial.become(today.talk);
            for (int time = 0; time < pair / NUMBERS; time++) {
                trial.utter(one, sentenceOf(one), 1);
            }
            for (int time = 0; time < pair % NUMBERS; time++) {
                trial.utter(other, sentenceOf(other), 1);
            }
            outcomes[pair] = trial.sense;
        }
    }

    private boolean isRest(int a, int b, int x, int y) {
        for (int instead = 0; instead < NUMBERS; instead++) {
            if (apart(instead, b, x) + instead < apart(a, b, x) + a
                    || apart(a, instead, y) + instead < apart(a, b, y) + b) {
                return false;
            }
        }
        return true;
    }

    private int apart(int a, int b, int wish) {
        int pair = a * NUMBERS + b;
        return pair >= 0 && pair < outcomes.length ? Math.abs(outcomes[pair] - wish) : 0;
    }

    private static int fraction(int above, int below, boolean upper) {
        int common = common(above, below);
        if (common <= 0) {
            return upper ? above : below;
        }
        return upper ? above / common : below / common;
    }

    private static int common(int one, int other) {
        int a = one;
        int b = other;
        // Euclid's steps on ints are always fewer than fifty.
        for (int step = 0; step < 50 && b != 0; step++) {
            int rest = a % b;
            a = b;
            b = rest;
        }
        return a;
    }

    private static int power(int base, int n) {
        int product = 1;
        for (int i = 0; i < n; i++) {
            product *= base;
        }
        return product;
    }

    /** What sayings go on from and change. */
    private static final class Talk {
        private int sense;
        private int last = NONE;
        // Kept as it was when it was said, for the speaker may be named anew since.
        private int lastNoEcho = NONE;
        private final int[] times = new int[SEATS];

        private void begin() {
            sense = 0;
            last = NONE;
            lastNoEcho = NONE;
            for (int i = 0; i < times.length; i++) {
                times[i] = 0;
            }
        }

        private void become(Talk other) {
            sense = other.sense;
            last = other.last;
            lastNoEcho = other.lastNoEcho;
            for (int i = 0; i < times.length && i < other.times.length; i++) {
                times[i] = other.times[i];
            }
        }

        private void utter(int person, int sentence, int often) {
            if (sentence / 10 != ECHO) {
                lastNoEcho = sentence;
            }
            for (int time = 0; time < often; time++) {
                sense = made(sense, lastNoEcho);
            }
            last = person;
            if (person >= 0 && person < times.length) {
                times[person]++;
            }
        }

        private static int made(int sense, int sentence) {
            if (sentence == NONE) {
                return sense;
            }
            int v = sentence % 10;
            switch (sentence / 10) {
                case SET: return v;
                case ADD: return (sense + v) % 10;
                case NOT: return 9 - sense;
                default: return sense;
            }
        }
    }

    /** All that acts change, so that it can be undone and kept as a whole. */
    private static final class Day {
        private final Talk talk = new Talk();
        private int at;
        private int hour;
        private final int[] sentence = new int[PEOPLE];

        private void begin() {
            talk.begin();
            at = 0;
            hour = 0;
        }

        private void become(Day other) {
            talk.become(other.talk);
            at = other.at;
            hour = other.hour;
            for (int i = 0; i < sentence.length && i < other.sentence.length; i++) {
                sentence[i] = other.sentence[i];
            }
        }
    }

    /** All rows of sayings by some of the people, those of one length by their numbers, the least first. */
    private static final class Rows {
        private final int[] who = new int[SEATS];
        private int size;

        private void by(int bits) {
            size = 0;
            for (int person = 0; person < SEATS; person++) {
                if (has(bits, person) && size < who.length) {
                    who[size] = person;
                    size++;
                }
            }
        }

        private int many(int n) {
            return power(size, n);
        }

        private int told(int index, int n) {
            if (size <= 0 || index < 0) {
                return 0;
            }
            int row = 0;
            int rest = index;
            int unit = 1;
            for (int i = 0; i < n; i++) {
                row += unit * (who[rest % size] + 1);
                rest /= size;
                unit *= 10;
            }
            return row;
        }
    }
}
