import java.math.BigInteger;
import java.util.ArrayList;
import java.util.List;
import java.util.Random;
import java.util.regex.Matcher;
import java.util.regex.Pattern;

/** Random runs of calls, each answer beside that of a slow model of the document written in another way. */
public final class RandomRuns {
    private static final int RUNS = 400, CALLS = 512;
    private static final int UNKNOWN = -1, OUTSIDE = -2, STATE = -3, FULL = -4, NONE = -9;
    private static final int[] FAR = {Integer.MIN_VALUE, Integer.MAX_VALUE, -1000, 1000, -3, 64, 100000, 1 << 30};

    public static void main(String[] args) {
        int wrong = 0;
        for (int seed = 1; seed <= RUNS && wrong < 20; seed++) {
            wrong += run(seed);
        }
        System.out.println(wrong == 0 ? "all answers are as due" : wrong + " runs are not as due");
        if (wrong != 0) {
            System.exit(1);
        }
    }

    private static int run(int seed) {
        Random random = new Random(seed);
        OneSentence x = new OneSentence();
        Model model = new Model();
        List<String> calls = new ArrayList<>();
        StringBuilder text = new StringBuilder();
        int written = 0;
        for (int i = 0; i < CALLS; i++) {
            int which;
            int[] a = new int[5];
            boolean yes = random.nextBoolean();
            if (i == 0 || random.nextInt(150) == 0) {
                text.setLength(0);
                text.append(island(random));
                written = -1;
            }
            if (text.length() > 0) {
                which = written < 0 ? 1 : written < text.length() ? 0 : 3;
                a[0] = which == 0 ? text.charAt(written) : 0;
                written++;
                if (which == 3) {
                    text.setLength(0);
                }
            } else {
                which = pick(random);
                arguments(random, which, a, model);
            }
            long want = model.answer(which, a, yes);
            String call = which + " " + java.util.Arrays.toString(a) + " " + yes;
            calls.add(call);
            long got;
            try {
                got = answer(x, which, a, yes);
            } catch (RuntimeException thrown) {
                System.out.println("run " + seed + ", call " + i + " " + call + " threw " + thrown);
                return 1;
            }
            if (got != want) {
                System.out.println("run " + seed + ", call " + i + " " + call + " answered " + got + ", due is " + want
                    + " on " + model.text + " behind " + calls);
                return 1;
            }
        }
        return 0;
    }

    private static String island(Random random) {
        int market = random.nextInt(10);
        StringBuilder text = new StringBuilder("I").append(market);
        int people = random.nextInt(4) == 0 ? random.nextInt(7) : 3 + random.nextInt(4);
        int away = random.nextInt(4);
        for (int p = 0; p < people; p++) {
            boolean isAway = random.nextInt(4) < away;
            text.append('P').append(isAway ? random.nextInt(10) : market).append(random.nextInt(4));
            text.append(random.nextInt(10)).append(random.nextInt(4));
        }
        if (random.nextInt(12) == 0) {
            text.setCharAt(random.nextInt(text.length()), (char) random.nextInt(256));
        }
        if (random.nextInt(12) == 0) {
            text.setLength(random.nextInt(text.length()));
        }
        return text.toString();
    }

    private static int pick(Random random) {
        int many = random.nextInt(100);
        if (many < 5) {
            return random.nextInt(4);
        }
        if (many < 45) {
            int[] acts = {5, 6, 7, 7, 7, 7, 8, 9};
            return acts[random.nextInt(acts.length)];
        }
        return 4 + random.nextInt(22);
    }

    private static void arguments(Random random, int which, int[] a, Model model) {
        int people = Math.max(1, model.people());
        int p = random.nextInt(people);
        int q = random.nextInt(people);
        switch (which) {
            case 0: a[0] = random.nextInt(256); break;
            case 4: a[0] = p; a[1] = random.nextInt(7); break;
            case 5: case 6: case 7: a[0] = p; break;
            case 8: a[0] = p; a[1] = random.nextInt(4); a[2] = random.nextInt(10); break;
            case 10:
                a[0] = 1 + random.nextInt(5);
                for (int i = 0; i < a[0]; i++) {
                    a[1] = 10 * a[1] + 1 + random.nextInt(people);
                }
                a[2] = random.nextInt(2);
                break;
            case 11: case 13: a[0] = random.nextInt(10); break;
            case 12: a[0] = random.nextInt(4); break;
            case 15: a[0] = 1 + random.nextInt(3); break;
            case 16: a[0] = 1 + random.nextInt(4); a[1] = random.nextInt(10); a[2] = random.nextInt(3); break;
            case 17: a[0] = p; a[1] = q; break;
            case 18: a[0] = p; a[1] = 1 + random.nextInt(3); break;
            case 19:
                a[0] = p; a[1] = q; a[2] = random.nextInt(10); a[3] = random.nextInt(10); a[4] = random.nextInt(2);
                break;
            case 20: a[0] = 1 + random.nextInt(4); a[1] = random.nextInt(10); break;
            case 21: a[0] = random.nextInt(); break;
            case 22: a[0] = 1 + random.nextInt(30); break;
            case 23: case 24: a[0] = random.nextInt(2); break;
            case 25: a[0] = random.nextInt(9); break;
            default: break;
        }
        if (random.nextInt(12) == 0) {
            int at = random.nextInt(5);
            a[at] = random.nextBoolean() ? FAR[random.nextInt(FAR.length)] : a[at] + random.nextInt(9) - 4;
        }
    }

    private static long answer(OneSentence x, int which, int[] a, boolean yes) {
        switch (which) {
            case 0: return x.write(a[0]);
            case 1: return x.wipe();
            case 2: return x.fault();
            case 3: return x.island();
            case 4: return x.person(a[0], a[1]);
            case 5: return x.fetch(a[0]);
            case 6: return x.send(a[0]);
            case 7: return x.say(a[0]);
            case 8: return x.name(a[0], a[1], a[2]);
            case 9: return x.undo();
            case 10: return x.comesTo(a[0], a[1], a[2]);
            case 11: return x.fewest(a[0], yes);
            case 12: return x.can(a[0]);
            case 13: return x.toFetch(a[0], yes);
            case 14: return x.needed();
            case 15: return x.naming(a[0], yes);
            case 16: return x.spoken(a[0], a[1], a[2]);
            case 17: return x.quarrel(a[0], a[1], yes);
            case 18: return x.share(a[0], a[1], yes);
            case 19: return x.rests(a[0], a[1], a[2], a[3], a[4]);
            case 20: return x.chance(a[0], a[1], yes);
            case 21: return x.seed((long) a[0] * 0x123456789ABCDL);
            case 22: return x.nights(a[0]);
            case 23: return x.keep(a[0]);
            case 24: return x.again(a[0]);
            default: return x.count(a[0]);
        }
    }

    /** A person as the text tells it, its sentence as it is now, and how often it spoke. */
    private record Person(int home, int sort, int v, int kind, boolean here, int spoke) {
        Person at(boolean now) {
            return new Person(home, sort, v, kind, now, spoke);
        }

        Person called(int s, int w) {
            return new Person(home, s, w, kind, here, spoke);
        }

        Person more() {
            return new Person(home, sort, v, kind, here, spoke + 1);
        }
    }

    /** A day that never changes: each act makes another one. */
    private record Scene(List<Person> people, int sense, int last, int[] echoed, int hour) {
        boolean may(int p) {
            if (p < 0 || p >= people.size() || !people.get(p).here()) {
                return false;
            }
            Person who = people.get(p);
            boolean asked = last >= 0 && last != p;
            return switch (who.kind()) {
                case 1 -> asked;
                case 3 -> who.spoke() == 0;
                default -> true;
            };
        }

        Scene with(int p, Person now) {
            List<Person> others = new ArrayList<>(people);
            others.set(p, now);
            return new Scene(others, sense, last, echoed, hour);
        }

        Scene said(int p) {
            return uttered(p, people.get(p).kind() == 2);
        }

        Scene uttered(int p, boolean twice) {
            Person who = people.get(p);
            int[] effect = who.sort() == 3 ? echoed : new int[] {who.sort(), who.v()};
            int now = done(sense, effect);
            now = twice ? done(now, effect) : now;
            Scene next = with(p, who.more());
            return new Scene(next.people, now, p, effect, hour);
        }

        private static int done(int sense, int[] effect) {
            if (effect == null) {
                return sense;
            }
            if (effect[0] == 0) {
                return effect[1];
            }
            return Math.floorMod(effect[0] == 1 ? sense + effect[1] : 9 - sense, 10);
        }

        Scene later(int hours) {
            return new Scene(people, sense, last, echoed, hour + hours);
        }

        /** Those alone are at the market. */
        Scene only(int bits) {
            List<Person> now = new ArrayList<>();
            for (int p = 0; p < people.size(); p++) {
                now.add(people.get(p).at((bits >> p & 1) == 1));
            }
            return new Scene(now, sense, last, echoed, hour);
        }

        int here() {
            int bits = 0;
            for (int p = 0; p < people.size(); p++) {
                bits += people.get(p).here() ? 1 << p : 0;
            }
            return bits;
        }

        /** Every row of n sayings, told as {number, sense, speakers}, the least number first. */
        List<int[]> rows(int n) {
            List<int[]> found = new ArrayList<>();
            collect(n, 0, 0, found);
            return found;
        }

        private void collect(int left, int number, int speakers, List<int[]> found) {
            if (left == 0) {
                found.add(new int[] {number, sense, speakers});
                return;
            }
            for (int p = 0; p < people.size(); p++) {
                if (may(p)) {
                    said(p).collect(left - 1, 10 * number + p + 1, speakers | 1 << p, found);
                }
            }
        }

        int can(int n) {
            int bits = 0;
            for (int k = 0; k <= n; k++) {
                for (int[] row : rows(k)) {
                    bits |= 1 << row[1];
                }
            }
            return bits;
        }

        int[] fewest(int w) {
            for (int n = 0; n <= 4; n++) {
                for (int[] row : rows(n)) {
                    if (row[1] == w) {
                        return new int[] {n, row[0]};
                    }
                }
            }
            return null;
        }

        /** In how many of the size^n ways to choose it is w then. */
        int ways(int n, int w) {
            if (n == 0) {
                return sense == w ? 1 : 0;
            }
            int sum = 0;
            for (int p = 0; p < people.size(); p++) {
                if (people.get(p).here()) {
                    sum += (may(p) ? said(p) : this).ways(n - 1, w);
                }
            }
            return sum;
        }
    }

    private static final class Model {
        private static final Pattern ISLAND = Pattern.compile("I[0-9](P[0-9][0-3][0-9][0-3]){0,6}", Pattern.DOTALL);
        private String text = "";
        private int market = 0;
        private Scene now = new Scene(List.of(), 0, NONE, null, 0);
        private final List<Scene> acts = new ArrayList<>();
        private final Scene[] slots = new Scene[2];
        private BigInteger seed = BigInteger.ZERO;

        int people() {
            return now.people().size();
        }

        private boolean no(int p) {
            return p < 0 || p >= people();
        }

        private static boolean out(int x, int least, int most) {
            return x < least || x > most;
        }

        long answer(int which, int[] a, boolean yes) {
            switch (which) {
                case 0: return write(a[0]);
                case 1: { int was = text.length(); text = ""; return was; }
                case 2: return fault();
                case 3: return island();
                case 4: return person(a[0], a[1]);
                case 5: case 6: case 7: case 8: return act(which, a);
                case 9: return undo();
                case 10: return comesTo(a[0], a[1], a[2]);
                case 11: return fewest(a[0], yes);
                case 12: return out(a[0], 0, 3) ? OUTSIDE : now.can(a[0]);
                case 13: return toFetch(a[0], yes);
                case 14: return needed();
                case 15: return naming(a[0], yes);
                case 16: return spoken(a[0], a[1], a[2]);
                case 17: return quarrel(a[0], a[1], yes);
                case 18: return share(a[0], a[1], yes);
                case 19: return rests(a);
                case 20: return chance(a[0], a[1], yes);
                case 21: return seed((long) a[0] * 0x123456789ABCDL);
                case 22: return nights(a[0]);
                case 23: return keep(a[0]);
                case 24: return again(a[0]);
                default: return count(a[0]);
            }
        }

        private int write(int letter) {
            if (out(letter, 0, 255)) {
                return OUTSIDE;
            }
            if (text.length() == 40) {
                return FULL;
            }
            text += (char) letter;
            return text.length();
        }

        private int fault() {
            for (int i = 1; i <= text.length(); i++) {
                Matcher matcher = ISLAND.matcher(text.substring(0, i));
                if (!matcher.matches() && !couldGoOn(text.substring(0, i))) {
                    return i - 1;
                }
            }
            return ISLAND.matcher(text).matches() ? NONE : text.length();
        }

        private static boolean couldGoOn(String text) {
            String[] rests = {"I0", "0", "P0000", "0000", "000", "00"};
            for (String rest : rests) {
                if (ISLAND.matcher(text + rest).matches()) {
                    return true;
                }
            }
            return false;
        }

        private int island() {
            if (fault() != NONE) {
                return STATE;
            }
            market = text.charAt(1) - '0';
            List<Person> people = new ArrayList<>();
            for (String told : text.substring(2).split("P")) {
                if (!told.isEmpty()) {
                    int all = Integer.parseInt(told);
                    int home = all / 1000;
                    people.add(new Person(home, all / 100 % 10, all / 10 % 10, all % 10, home == market, 0));
                }
            }
            now = new Scene(people, 0, NONE, null, 0);
            acts.clear();
            slots[0] = null;
            slots[1] = null;
            return people.size();
        }

        private int person(int p, int what) {
            if (no(p)) {
                return UNKNOWN;
            }
            Person who = now.people().get(p);
            switch (what) {
                case 0: return who.home();
                case 1: return who.sort();
                case 2: return who.v();
                case 3: return who.kind();
                case 4: return who.here() ? 1 : 0;
                case 5: return now.may(p) ? 1 : 0;
                case 6: return who.spoke();
                default: return OUTSIDE;
            }
        }

        private int act(int which, int[] a) {
            int p = a[0];
            if (no(p)) {
                return UNKNOWN;
            }
            Person who = now.people().get(p);
            Scene next = null;
            if (which == 5 && !who.here()) {
                next = now.with(p, who.at(true)).later(Math.abs(who.home() - market));
            }
            if (which == 6 && who.here() && who.home() != market) {
                next = now.with(p, who.at(false));
            }
            if (which == 7 && now.may(p)) {
                next = now.said(p).later(1);
            }
            if (which == 8) {
                if (out(a[1], 0, 3) || out(a[2], 0, 9)) {
                    return OUTSIDE;
                }
                if (who.sort() != a[1] || who.v() != a[2]) {
                    next = now.with(p, who.called(a[1], a[2]));
                }
            }
            if (next == null) {
                return STATE;
            }
            acts.add(now);
            if (acts.size() > 14) {
                acts.remove(0);
            }
            now = next;
            int[] answers = {now.hour(), Integer.bitCount(now.here()), now.sense(), 10 * who.sort() + who.v()};
            return answers[which - 5];
        }

        private int undo() {
            if (acts.isEmpty()) {
                return STATE;
            }
            now = acts.remove(acts.size() - 1);
            return acts.size();
        }

        private int comesTo(int n, int row, int what) {
            if (out(n, 1, 5) || row < 0 || String.valueOf(row).length() > n || out(what, 0, 1)) {
                return OUTSIDE;
            }
            String figures = String.format("%0" + n + "d", row);
            Scene scene = now;
            for (int i = 0; i < n; i++) {
                int p = figures.charAt(i) - '1';
                if (!scene.may(p)) {
                    return what == 0 ? STATE : i;
                }
                scene = scene.said(p);
            }
            return what == 0 ? scene.sense() : NONE;
        }

        private int fewest(int w, boolean row) {
            if (out(w, 0, 9)) {
                return OUTSIDE;
            }
            int[] found = now.fewest(w);
            return found == null ? NONE : found[row ? 1 : 0];
        }

        private int toFetch(int w, boolean hours) {
            if (out(w, 0, 9)) {
                return OUTSIDE;
            }
            int here = now.here();
            long best = Long.MAX_VALUE;
            for (int some = 0; some < 1 << people(); some++) {
                if ((some & here) == 0) {
                    int cost = 0;
                    for (int p = 0; p < people(); p++) {
                        cost += (some >> p & 1) * Math.abs(now.people().get(p).home() - market);
                    }
                    long rank = cost * 10000L + Integer.bitCount(some) * 100 + some;
                    if (rank < best && now.only(here | some).fewest(w) != null) {
                        best = rank;
                    }
                }
            }
            if (best == Long.MAX_VALUE) {
                return NONE;
            }
            return (int) (hours ? best / 10000 : best % 100);
        }

        private int needed() {
            int here = now.here();
            int all = now.can(3);
            for (int size = 0; size <= 6; size++) {
                for (int some = 0; some <= here; some++) {
                    if ((some | here) == here && Integer.bitCount(some) == size && now.only(some).can(3) == all) {
                        return some;
                    }
                }
            }
            return here;
        }

        private int naming(int n, boolean many) {
            if (out(n, 1, 3)) {
                return OUTSIDE;
            }
            int best = -1;
            int most = -1;
            for (int sort = 0; sort <= 3; sort++) {
                for (int v = 0; v <= 9; v++) {
                    List<Person> more = new ArrayList<>(now.people());
                    more.add(new Person(market, sort, v, 0, true, 0));
                    Scene scene = new Scene(more, now.sense(), now.last(), now.echoed(), 0);
                    int senses = Integer.bitCount(scene.can(n));
                    if (senses > most) {
                        most = senses;
                        best = 10 * sort + v;
                    }
                }
            }
            return many ? most : best;
        }

        private int spoken(int n, int w, int what) {
            if (out(n, 1, 4) || out(w, 0, 9) || out(what, 0, 2)) {
                return OUTSIDE;
            }
            int many = 0;
            int or = 0;
            int and = -1;
            for (int[] row : now.rows(n)) {
                if (row[1] == w) {
                    many++;
                    or |= row[2];
                    and &= row[2];
                }
            }
            if (what == 0) {
                return many;
            }
            return many == 0 ? NONE : what == 1 ? and : now.here() & ~or;
        }

        private int quarrel(int one, int other, boolean first) {
            if (no(one) || no(other)) {
                return UNKNOWN;
            }
            if (one == other) {
                return OUTSIDE;
            }
            List<Integer> senses = new ArrayList<>();
            Scene scene = now;
            while (!senses.contains(scene.sense())) {
                senses.add(scene.sense());
                scene = scene.uttered(one, false).uttered(other, false);
            }
            return first ? senses.indexOf(scene.sense()) : senses.size();
        }

        private int share(int p, int n, boolean upper) {
            if (no(p)) {
                return UNKNOWN;
            }
            if (out(n, 1, 3)) {
                return OUTSIDE;
            }
            if (!now.people().get(p).here()) {
                return upper ? 0 : 1;
            }
            int[] cans = new int[64];
            int here = now.here();
            for (int some = 0; some <= here; some++) {
                if ((some | here) == here) {
                    cans[some] = Integer.bitCount(now.only(some).can(n));
                }
            }
            int[] sums = new int[2];
            orders(here, 0, p, cans, sums);
            return reduced(sums[0], sums[1], upper);
        }

        /** Each order in which those who are left come. */
        private static void orders(int left, int come, int p, int[] cans, int[] sums) {
            if (left == 0) {
                sums[1]++;
                return;
            }
            for (int next = 0; next < 6; next++) {
                if ((left >> next & 1) == 1) {
                    if (next == p) {
                        int orders = 1;
                        for (int k = 2; k < Integer.bitCount(left); k++) {
                            orders *= k;
                        }
                        sums[0] += orders * (cans[come | 1 << p] - cans[come]);
                    }
                    orders(left & ~(1 << next), come | 1 << next, p, cans, sums);
                }
            }
        }

        private static int reduced(int above, int below, boolean upper) {
            int common = BigInteger.valueOf(above).gcd(BigInteger.valueOf(below)).intValue();
            return (upper ? above : below) / common;
        }

        private int rests(int[] a) {
            if (no(a[0]) || no(a[1])) {
                return UNKNOWN;
            }
            if (a[0] == a[1] || out(a[2], 0, 9) || out(a[3], 0, 9) || out(a[4], 0, 1)) {
                return OUTSIDE;
            }
            List<Integer> found = new ArrayList<>();
            for (int one = 0; one <= 3; one++) {
                for (int other = 0; other <= 3; other++) {
                    boolean rests = true;
                    for (int k = 0; k <= 3; k++) {
                        rests &= loss(a, one, other, 0) <= loss(a, k, other, 0);
                        rests &= loss(a, one, other, 1) <= loss(a, one, k, 1);
                    }
                    if (rests) {
                        found.add(10 * one + other);
                    }
                }
            }
            return a[4] == 0 ? found.size() : found.isEmpty() ? NONE : found.get(0);
        }

        private int loss(int[] a, int one, int other, int whose) {
            Scene scene = now;
            for (int k = 0; k < one; k++) {
                scene = scene.uttered(a[0], false);
            }
            for (int k = 0; k < other; k++) {
                scene = scene.uttered(a[1], false);
            }
            return Math.abs(scene.sense() - a[2 + whose]) + (whose == 0 ? one : other);
        }

        private int chance(int n, int w, boolean upper) {
            if (out(n, 1, 4) || out(w, 0, 9)) {
                return OUTSIDE;
            }
            int size = Integer.bitCount(now.here());
            if (size == 0) {
                return !upper || now.sense() == w ? 1 : 0;
            }
            int all = BigInteger.valueOf(size).pow(n).intValue();
            return reduced(now.ways(n, w), all, upper);
        }

        private long seed(long v) {
            long was = seed.longValue();
            seed = BigInteger.valueOf(v);
            return was;
        }

        private int nights(int m) {
            if (out(m, 1, 30)) {
                return OUTSIDE;
            }
            BigInteger all = BigInteger.ONE.shiftLeft(64);
            Scene scene = now;
            int sum = 0;
            for (int i = 0; i < m; i++) {
                seed = seed.multiply(new BigInteger("6364136223846793005"))
                    .add(new BigInteger("1442695040888963407")).mod(all);
                int p = seed.shiftRight(33).mod(BigInteger.valueOf(6)).intValue();
                scene = scene.may(p) ? scene.said(p) : scene;
                sum += scene.sense();
            }
            return sum;
        }

        private int keep(int slot) {
            if (out(slot, 0, 1)) {
                return UNKNOWN;
            }
            slots[slot] = now;
            return now.hour();
        }

        private int again(int slot) {
            if (out(slot, 0, 1)) {
                return UNKNOWN;
            }
            if (slots[slot] == null) {
                return STATE;
            }
            now = slots[slot];
            acts.clear();
            return now.hour();
        }

        private int count(int what) {
            int may = 0;
            for (int p = 0; p < people(); p++) {
                may |= now.may(p) ? 1 << p : 0;
            }
            int[] counts = {text.length(), people(), market, now.sense(), now.hour(), now.here(), may, now.last(),
                acts.size()};
            return out(what, 0, 8) ? OUTSIDE : counts[what];
        }
    }
}
