import java.util.ArrayList;
import java.util.Arrays;
import java.util.List;
import java.util.Random;

/**
 * What is sought at the full sizes that the document allows (10 THINGS and 8 BOXES, 6 ITEMS shut in, 12 THINGS of a
 * chest): drawn stores, each answer compared with all ways tried here, from the numbers of the text alone.
 */
public final class FullSizeTest {
    private static final int STORES = 100;

    private final Random random;
    private final LargerWithin x;
    private final int boxes;
    private final int things;
    /** By ITEMS' numbers: size, outline, weight, worth, lid, factor, bears. */
    private final int[][] told = new int[24][7];

    private FullSizeTest(int seed, boolean tight) {
        random = new Random(seed);
        boxes = tight ? 8 : some(2, 8);
        things = some(12, 13);
        StringBuilder text = new StringBuilder();
        int scale = some(1, 4);
        for (int b = 0; b < boxes; b++) {
            int size = some(1, 3 * scale);
            int[] v = {size, some(1, 6), some(1, 4), 0, some(tight ? 3 : 5, 6), some(1, tight ? 3 : 16), some(3, tight ? 9 : 40)};
            told[b] = v;
            text.append(Due.box(v[0], v[1], v[4], v[5], v[2], v[6]));
        }
        for (int t = 8; t < 8 + things; t++) {
            int[] v = {some(1, tight ? 2 * scale : 3), some(1, tight ? 4 : 6), some(1, tight ? 3 : 4), some(0, 6), 0, 0, 0};
            told[t] = v;
            text.append(Due.thing(v[0], v[1], v[2], v[3]));
        }
        x = Due.with(text.toString());
    }

    public static void main(String[] args) {
        for (int seed = 0; seed < STORES; seed++) {
            FullSizeTest test = new FullSizeTest(seed, seed % 2 == 0);
            test.households(some(test.random, 0, 2));
            for (int t = 0; t < 3; t++) {
                test.shuttings();
                test.evens();
            }
            test.chests();
            test.nests();
            test.x.carriers(seed, 60);
            test.mosts();
            test.households(0);
        }
        Due.end("FullSizeTest");
    }

    private static int some(Random random, int from, int to) { return from + random.nextInt(to - from + 1); }

    private int some(int from, int to) { return some(random, from, to); }

    private int roomOf(int b, int halved) {
        int parts = 1;
        for (int h = 0; h < halved; h++) parts *= 2;
        return told[b][0] * told[b][5] / parts;
    }

    private int someThings(int howMany) {
        int set = 0;
        while (Integer.bitCount(set) < howMany) set |= 1 << some(8, 7 + things);
        return set;
    }

    private int sum(int set, int kind) {
        int sum = 0;
        for (int i = 0; i < 24; i++) if ((set >> i & 1) != 0) sum += told[i][kind];
        return sum;
    }

    private boolean passLid(int set, int b) {
        for (int i = 0; i < 24; i++) if ((set >> i & 1) != 0 && told[i][1] > told[b][4]) return false;
        return true;
    }

    private boolean takes(int b, int set) {
        return passLid(set, b) && sum(set, 2) <= told[b][6] && sum(set, 0) <= roomOf(b, 0);
    }

    /** All sets whose members are of this one, the least first. */
    private static List<Integer> partsOf(int set) {
        List<Integer> parts = new ArrayList<>();
        for (int part = set; part > 0; part = part - 1 & set) parts.add(0, part);
        parts.add(0, 0);
        return parts;
    }

    // ---- households

    /** For each set of BOXES, by the places of "parts", what they can take together. */
    private boolean[][] takenBy(List<Integer> parts) {
        int n = parts.size();
        boolean[][] taken = new boolean[1 << boxes][n];
        taken[0][0] = true;
        boolean[][] alone = new boolean[boxes][n];
        for (int b = 0; b < boxes; b++) for (int p = 0; p < n; p++) alone[b][p] = takes(b, parts.get(p));
        for (int s = 1; s < 1 << boxes; s++) {
            int b = Integer.numberOfTrailingZeros(s);
            boolean[] others = taken[s & s - 1];
            for (int p = 0; p < n; p++) {
                boolean can = others[p];
                for (int q = p; q > 0 && !can; q = q - 1 & p) can = alone[b][q] && others[p & ~q];
                taken[s][p] = can;
            }
        }
        return taken;
    }

    private void households(int fewer) {
        int set = someThings(10 - fewer);
        List<Integer> parts = partsOf(set);
        boolean[][] taken = takenBy(parts);
        for (boolean lightest : new boolean[] {false, true}) {
            int best = -1;
            for (int s = 0; s < 1 << boxes; s++) {
                if (taken[s][parts.size() - 1] && (best < 0 || isBetter(s, best, lightest))) best = s;
            }
            String call = set + ", " + lightest;
            Due.is("household " + call + ", 0", x.household(set, lightest, 0), best < 0 ? -1 : Integer.bitCount(best));
            Due.is("household " + call + ", 1", x.household(set, lightest, 1), best < 0 ? -1 : sum(best, 2));
            Due.is("household " + call + ", 2", x.household(set, lightest, 2), best);
            int[] in = holders(best, parts, taken);
            for (int i = 8; i < 24; i++) {
                Due.is("holds " + call + ", " + i, x.holds(set, lightest, i), (set >> i & 1) == 0 ? -2 : in[i]);
            }
        }
    }

    private boolean isBetter(int s, int best, boolean lightest) {
        int many = Integer.compare(Integer.bitCount(s), Integer.bitCount(best));
        int weight = Integer.compare(sum(s, 2), sum(best, 2));
        int first = lightest ? weight : many;
        return first != 0 ? first < 0 : (lightest ? many : weight) < 0;
    }

    private int[] holders(int household, List<Integer> parts, boolean[][] taken) {
        int[] in = new int[24];
        Arrays.fill(in, -1);
        int others = household;
        int left = parts.size() - 1;
        for (int b = 0; b < boxes && household >= 0; b++) {
            if ((household >> b & 1) == 0) continue;
            others &= ~(1 << b);
            int part = left;
            while ((part & ~left) != 0 || !takes(b, parts.get(part)) || !taken[others][left & ~part]) part--;
            for (int i = 8; i < 24; i++) if ((parts.get(part) >> i & 1) != 0) in[i] = b;
            left &= ~part;
        }
        return in;
    }

    // ---- shut

    private void shuttings() {
        int b = some(0, boxes - 1);
        // mostly the roomiest one, as for most others there is no way
        for (int a = 0; a < boxes && random.nextInt(12) != 0; a++) if (roomOf(a, 0) > roomOf(b, 0)) b = a;
        int set = 0;
        int wanted = some(0, Math.min(6, boxes - 1));
        while (Integer.bitCount(set) < wanted) set |= 1 << some(0, boxes - 1) & ~(1 << b);
        int many = random.nextBoolean() ? 6 : some(Math.max(1, wanted), 6);
        while (Integer.bitCount(set) < many) set |= 1 << some(8, 7 + things);
        int[] in = new int[24];
        int[] first = new int[24];
        Arrays.fill(in, -1);
        Arrays.fill(first, -1);
        Due.is("shut " + b + ", " + set, x.shut(b, set), waysFrom(0, b, set, in, first));
        for (int i = 0; i < 24; i++) {
            Due.is("shutIn " + b + ", " + set + ", " + i, x.shutIn(b, set, i), (set >> i & 1) == 0 ? -2 : first[i]);
        }
    }

    private int waysFrom(int i, int b, int set, int[] in, int[] first) {
        if (i == 24) {
            boolean sound = isSound(b, set, in);
            if (sound && first[31 - Integer.numberOfLeadingZeros(set)] < 0) System.arraycopy(in, 0, first, 0, 24);
            return sound ? 1 : 0;
        }
        if ((set >> i & 1) == 0) return waysFrom(i + 1, b, set, in, first);
        int ways = 0;
        for (int host = 0; host < boxes; host++) {
            if (host != b && (set >> host & 1) == 0) continue;
            in[i] = host;
            ways += waysFrom(i + 1, b, set, in, first);
        }
        in[i] = -1;
        return ways;
    }

    private boolean isSound(int b, int set, int[] in) {
        int[] fill = new int[8];
        int[] load = new int[8];
        int[] halved = new int[8];
        for (int i = 0; i < 24; i++) {
            if ((set >> i & 1) == 0) continue;
            if (told[i][1] > told[in[i]][4]) return false;
            fill[in[i]] += told[i][0];
            if (i < 8) {
                halved[i]++;
                halved[in[i]]++;
            }
            int at = in[i];
            for (int steps = 0; at >= 0 && steps < 8; steps++) {
                load[at] += told[i][2];
                at = in[at];
            }
            if (at >= 0) return false;
        }
        for (int a = 0; a < boxes; a++) if (load[a] > told[a][6] || fill[a] > roomOf(a, halved[a])) return false;
        return true;
    }

    // ---- even, most

    private void evens() {
        int b = some(0, boxes - 1);
        int other = (b + some(1, boxes - 1)) % boxes;
        int set = someThings(random.nextBoolean() ? 10 : some(3, 9));
        int best = -1;
        int apart = 0;
        for (int part : partsOf(set)) {
            int differ = Math.abs(sum(part, 3) - sum(set & ~part, 3));
            if (takes(b, part) && takes(other, set & ~part) && (best < 0 || differ < apart)) {
                best = part;
                apart = differ;
            }
        }
        String call = "even " + b + ", " + other + ", " + set;
        Due.is(call + ", 0", x.even(b, other, set, 0), best < 0 ? -1 : apart);
        Due.is(call + ", 1", x.even(b, other, set, 1), best);
    }

    private void mosts() {
        int all = (1 << boxes) - 1 | (1 << things) - 1 << 8;
        for (int b = 0; b < boxes && b < 4; b++) {
            int set = random.nextInt() & all | someThings(10);
            int from = 0;
            for (int i = 8; i < 24; i++) {
                if ((set >> i & 1) != 0 && x.lies(i, 0) < 0 && Integer.bitCount(from) < 10) from |= 1 << i;
            }
            int spare = told[b][6] - x.box(b, 2);
            for (int a = x.lies(b, 0); a >= 0; a = x.lies(a, 0)) spare = Math.min(spare, told[a][6] - x.box(a, 2));
            int room = x.box(b, 0) - x.box(b, 1);
            int best = 0;
            for (int part : partsOf(from)) {
                boolean can = passLid(part, b) && sum(part, 2) <= spare && sum(part, 0) <= room;
                if (can && sum(part, 3) > sum(best, 3)) best = part;
            }
            Due.is("most " + b + ", " + set + ", 0", x.most(b, set, 0), sum(best, 3));
            Due.is("most " + b + ", " + set + ", 1", x.most(b, set, 1), best);
        }
    }

    // ---- chests

    private void chests() {
        int b = some(0, boxes - 1);
        int set = (1 << things) - 1 << 8;
        int firstTwelve = 0xfff00;
        List<Integer> parts = partsOf(firstTwelve);
        for (int t = 0; t < 6; t++) {
            int like = parts.get(random.nextInt(parts.size())) & (t < 3 ? random.nextInt() : -1);
            int n = Integer.bitCount(like);
            int w = sum(like, 2);
            int f = sum(like, 0);
            List<Integer> weighed = new ArrayList<>();
            int sounded = 0;
            for (int part : parts) {
                if (sum(part, 2) != w || !takes(b, part)) continue;
                if (Integer.bitCount(part) == n) weighed.add(part);
                if (sum(part, 0) == f) sounded++;
            }
            Due.is("sounded " + b + ", " + w + ", " + f, x.sounded(b, set, w, f), sounded);
            tellApart(b, set, n, w, weighed);
        }
    }

    private void tellApart(int b, int set, int n, int w, List<Integer> sets) {
        String call = b + ", " + set + ", " + n + ", " + w;
        int in = sets.isEmpty() ? 0 : -1;
        int out = sets.isEmpty() ? 0 : 0xfff00;
        for (int s : sets) {
            in &= s;
            out &= ~s;
        }
        int look = -1;
        int least = sets.size();
        for (int i = 8; i < 20; i++) {
            int with = 0;
            for (int s : sets) with += s >> i & 1;
            if (Math.max(with, sets.size() - with) < least) {
                least = Math.max(with, sets.size() - with);
                look = i;
            }
        }
        Due.is("chest " + call, x.chest(b, set, n, w), sets.size());
        Due.is("sure " + call, x.sure(b, set, n, w, true), in);
        Due.is("out " + call, x.sure(b, set, n, w, false), out);
        Due.is("look " + call, x.look(b, set, n, w), sets.size() < 2 ? -1 : look);
        int looks = sets.isEmpty() ? -1 : sets.size() > 12 ? -4 : looksFor(sets);
        Due.is("looks " + call, x.looks(b, set, n, w), looks);
    }

    private static int looksFor(List<Integer> sets) {
        for (int looks = 0; ; looks++) if (canTellApart(sets, looks)) return looks;
    }

    private static boolean canTellApart(List<Integer> sets, int looks) {
        if (sets.size() <= 1) return true;
        for (int i = 8; i < 20 && sets.size() <= 1 << looks; i++) {
            List<Integer> with = new ArrayList<>();
            List<Integer> without = new ArrayList<>();
            for (int s : sets) ((s >> i & 1) != 0 ? with : without).add(s);
            boolean tells = !with.isEmpty() && !without.isEmpty();
            if (tells && canTellApart(with, looks - 1) && canTellApart(without, looks - 1)) return true;
        }
        return false;
    }

    // ---- nests

    private void nests() {
        List<Integer> best = new ArrayList<>();
        for (int b = 0; b < boxes; b++) {
            List<Integer> found = longestFrom(new ArrayList<>(List.of(b)));
            if (found.size() > best.size()) best = found;
        }
        Due.is("nest", x.nest(-1), best.size());
        for (int k = 0; k < 9; k++) Due.is("nest " + k, x.nest(k), k < best.size() ? best.get(k) : -1);
    }

    private List<Integer> longestFrom(List<Integer> row) {
        List<Integer> best = row;
        int last = row.get(row.size() - 1);
        int load = 0;
        for (int b : row) load += told[b][2];
        int inLast = row.size() > 1 ? told[row.get(row.size() - 2)][0] : 0;
        for (int next = 0; next < boxes; next++) {
            boolean can = !row.contains(next) && told[last][1] <= told[next][4] && load <= told[next][6]
                && told[last][0] <= roomOf(next, 1) && inLast <= roomOf(last, row.size() > 1 ? 2 : 1);
            if (!can) continue;
            List<Integer> longer = new ArrayList<>(row);
            longer.add(next);
            List<Integer> found = longestFrom(longer);
            if (found.size() > best.size()) best = found;
        }
        return best;
    }
}
