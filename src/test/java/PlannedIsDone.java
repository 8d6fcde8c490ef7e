import java.util.Arrays;
import java.util.Random;

/**
 * What calls that change nothing tell is what comes when it is done: no model, but FETCHED, SENT, SAID and undone on
 * the same object. Each state is made by some acts on a random island; all plans are for two sayings, or for as many
 * as the call has, and each object stays under its 512 calls.
 */
public final class PlannedIsDone {
    private static final int NONE = -9, STATES = 1500, MOST_CALLS = 512, SENSES = 10;
    private static int wrong = 0;

    private final OneSentence x = new OneSentence();
    private final Random random;
    private final String island;
    private final int people;
    private int calls = 0;

    private PlannedIsDone(int seed) {
        random = new Random(seed);
        int market = random.nextInt(10);
        people = 1 + random.nextInt(4);
        StringBuilder text = new StringBuilder("I").append(market);
        for (int p = 0; p < people; p++) {
            text.append('P').append(random.nextInt(3) > 0 ? market : random.nextInt(10));
            text.append(random.nextInt(4)).append(random.nextInt(10)).append(random.nextInt(4));
        }
        island = text.toString();
        for (int i = 0; i < island.length(); i++) {
            due("write", x.write(island.charAt(i)), i + 1);
        }
        due("island", x.island(), people);
        for (int i = 0; i < 8; i++) {
            act(random.nextInt(people));
        }
    }

    public static void main(String[] args) {
        for (int seed = 1; seed <= STATES && wrong < 20; seed++) {
            new PlannedIsDone(seed).sayings();
            new PlannedIsDone(seed).longRow();
            new PlannedIsDone(seed).fetching();
            new PlannedIsDone(seed).quarrel();
            new PlannedIsDone(seed).nights();
        }
        System.out.println(wrong == 0 ? "what is planned is done" : wrong + " plans are not what is done");
        if (wrong != 0) {
            System.exit(1);
        }
    }

    private long told(long answer) {
        calls++;
        if (calls > MOST_CALLS) {
            fault("the test makes more calls than an object answers");
        }
        return answer;
    }

    private void due(String call, long got, long want) {
        if (told(got) != want) {
            fault(call + " answered " + got + ", done it is " + want);
        }
    }

    private void fault(String what) {
        wrong++;
        System.out.println("on " + island + ": " + what);
    }

    private void act(int person) {
        switch (random.nextInt(5)) {
            case 0: told(x.fetch(person)); break;
            case 1: told(x.send(person)); break;
            case 2: told(x.name(person, random.nextInt(4), random.nextInt(10))); break;
            default: told(x.say(person)); break;
        }
        if (random.nextInt(6) == 0) {
            told(x.undo());
        }
    }

    private boolean has(int bits, int person) {
        return (bits >> person & 1) == 1;
    }

    // ---- can, fewest, spoken, chance

    private final int[] rows = new int[SENSES];
    private final int[] inAll = new int[SENSES];
    private final int[] inSome = new int[SENSES];
    private final int[] least = new int[SENSES];
    private final int[] ways = new int[SENSES];
    private int senses;

    private void sayings() {
        int there = (int) told(x.count(5));
        Arrays.fill(inAll, there);
        Arrays.fill(least, NONE);
        come((int) told(x.count(3)), 0);
        for (int p = 0; p < people; p++) {
            int sense = (int) told(x.say(p));
            if (sense >= 0) {
                come(sense, p + 1);
                told(x.undo());
            }
        }
        for (int one = 0; one < people; one++) {
            for (int other = 0; other < people; other++) {
                if (has(there, one) && has(there, other)) {
                    sayBoth(one, other);
                }
            }
        }
        due("can(2)", x.can(2), senses);
        for (int w = 0; w < SENSES; w++) {
            holdSense(w, there);
        }
    }

    private void come(int sense, int row) {
        senses |= 1 << sense;
        least[sense] = least[sense] == NONE ? row : least[sense];
    }

    private void sayBoth(int one, int other) {
        int first = (int) told(x.say(one));
        int second = (int) told(x.say(other));
        ways[(int) told(x.count(3))]++;
        if (first >= 0 && second >= 0) {
            rows[second]++;
            inAll[second] &= 1 << one | 1 << other;
            inSome[second] |= 1 << one | 1 << other;
            come(second, 10 * one + other + 11);
        }
        if (first >= 0) {
            told(x.undo());
        }
        if (second >= 0) {
            told(x.undo());
        }
    }

    private void holdSense(int w, int there) {
        if (least[w] != NONE) {
            due("fewest(" + w + ", true)", x.fewest(w, true), least[w]);
        } else {
            int many = (int) told(x.fewest(w, false));
            if (many != NONE && many < 3) {
                fault("fewest(" + w + ", false) answered " + many + ", no two come to it");
            }
        }
        due("spoken(2, " + w + ", 0)", x.spoken(2, w, 0), rows[w]);
        due("spoken(2, " + w + ", 1)", x.spoken(2, w, 1), rows[w] == 0 ? NONE : inAll[w]);
        due("spoken(2, " + w + ", 2)", x.spoken(2, w, 2), rows[w] == 0 ? NONE : there & ~inSome[w]);
        int size = Integer.bitCount(there);
        if (size > 0) {
            long above = told(x.chance(2, w, true));
            long below = told(x.chance(2, w, false));
            if (above * size * size != ways[w] * below) {
                fault("chance(2, " + w + ") is " + above + " by " + below + ", done " + ways[w] + " by " + size * size);
            }
        }
    }

    // ---- comesTo

    private void longRow() {
        for (int i = 0; i < 20; i++) {
            int n = 1 + random.nextInt(5);
            int row = 0;
            int stopped = NONE;
            int said = 0;
            int[] who = new int[n];
            for (int place = 0; place < n; place++) {
                who[place] = random.nextInt(people);
                row = 10 * row + who[place] + 1;
            }
            long place = told(x.comesTo(n, row, 1));
            long sense = told(x.comesTo(n, row, 0));
            told(x.keep(0));
            for (; said < n && stopped == NONE; said++) {
                stopped = told(x.say(who[said])) < 0 ? said : NONE;
            }
            long now = told(x.count(3));
            if (place != stopped || sense != (stopped == NONE ? now : OneSentence.STATE)) {
                fault("comesTo(" + n + ", " + row + ") is " + place + " and " + sense + ", done " + stopped + " and " + now);
            }
            told(x.again(0));
        }
    }

    // ---- toFetch

    private void fetching() {
        for (int w = 0; w < SENSES; w++) {
            int best = (int) told(x.toFetch(w, false));
            int hours = (int) told(x.toFetch(w, true));
            int began = (int) told(x.keep(0));
            for (int p = 0; p < people && best != NONE; p++) {
                if (has(best, p) && told(x.fetch(p)) < 0) {
                    fault("toFetch(" + w + ", false) has one that is there");
                }
            }
            boolean comes = told(x.fewest(w, false)) != NONE;
            if (best != NONE && (!comes || told(x.count(4)) - began != hours)) {
                fault("toFetch(" + w + ") is " + best + " by " + hours + ", it is not so when they come");
            }
            for (int p = 0; p < people && best == NONE; p++) {
                told(x.fetch(p));
            }
            if (best == NONE && told(x.fewest(w, false)) != NONE) {
                fault("toFetch(" + w + ") is NONE, but by all it comes");
            }
            told(x.again(0));
        }
    }

    // ---- quarrel

    /** By two who are PLAIN and at the MARKET, where a quarrel is what they say by turns. */
    private void quarrel() {
        int one = random.nextInt(people);
        int other = random.nextInt(people);
        boolean bothMay = one != other && isPlainThere(one) && isPlainThere(other);
        if (!bothMay) {
            return;
        }
        long turns = told(x.quarrel(one, other, false));
        long first = told(x.quarrel(one, other, true));
        long[] behind = new long[(int) turns + 1];
        behind[0] = told(x.count(3));
        for (int turn = 1; turn <= turns; turn++) {
            told(x.say(one));
            behind[turn] = told(x.say(other));
            for (int fewer = 0; fewer < turn; fewer++) {
                boolean isSame = behind[fewer] == behind[turn];
                if (isSame != (turn == turns && fewer == first)) {
                    fault("quarrel(" + one + ", " + other + ") is " + turns + " and " + first + ", done "
                        + Arrays.toString(behind));
                }
            }
        }
    }

    private boolean isPlainThere(int person) {
        return told(x.person(person, 3)) == 0 && told(x.person(person, 4)) == 1;
    }

    // ---- nights

    private void nights() {
        long seed = random.nextLong();
        told(x.seed(seed));
        long planned = told(x.nights(30));
        long sum = 0;
        for (int night = 0; night < 30; night++) {
            seed = seed * 6364136223846793005L + 1442695040888963407L;
            told(x.say((int) ((seed >>> 33) % 6)));
            sum += told(x.count(3));
        }
        if (planned != sum) {
            fault("nights(30) is " + planned + ", done " + sum);
        }
        due("seed", x.seed(0), seed);
    }
}
