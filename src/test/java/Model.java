import java.util.ArrayList;
import java.util.Arrays;
import java.util.Collections;
import java.util.HashMap;
import java.util.List;
import java.util.Map;
import java.util.TreeMap;
import java.util.regex.Matcher;
import java.util.regex.Pattern;

/** The document's promises in their plainest form, with the Java library and by trying all: to compare with. */
final class Model {
    static final int NONE = -1;
    static final int FLOOR = -1;

    /** What the text tells, and where all lies: for each BOX its ITEMS, the lowest first. */
    static final class World {
        /** ITEM -> size, outline, weight, worth, lid, factor, bears. */
        Map<Integer, int[]> items = new TreeMap<>();
        Map<Integer, List<Integer>> piles = new TreeMap<>();

        World copied() {
            World w = new World();
            w.items.putAll(items);
            for (Map.Entry<Integer, List<Integer>> e : piles.entrySet()) w.piles.put(e.getKey(), new ArrayList<>(e.getValue()));
            return w;
        }

        World emptied() {
            World w = copied();
            for (List<Integer> pile : w.piles.values()) pile.clear();
            return w;
        }

        List<Integer> all() { return new ArrayList<>(items.keySet()); }
        boolean isBox(int i) { return piles.containsKey(i); }
        int boxes() { return piles.size(); }

        int in(int i) {
            for (int b : piles.keySet()) if (piles.get(b).contains(i)) return b;
            return FLOOR;
        }

        int size(int i) { return items.get(i)[0]; }
        int outline(int i) { return items.get(i)[1]; }
        int weight(int i) { return items.get(i)[2]; }
        int worth(int i) { return items.get(i)[3]; }
        int lid(int i) { return items.get(i)[4]; }
        int bears(int i) { return items.get(i)[6]; }

        int heft(int i) { return weight(i) + (isBox(i) ? load(i) : 0); }

        int load(int b) {
            int sum = 0;
            for (int i : piles.get(b)) sum += heft(i);
            return sum;
        }

        int fill(int b) {
            int sum = 0;
            for (int i : piles.get(b)) sum += size(i);
            return sum;
        }

        int halved(int b) {
            int h = in(b) == FLOOR ? 0 : 1;
            for (int i : piles.get(b)) if (isBox(i)) h++;
            return h;
        }

        int room(int b) { return roomOf(size(b), items.get(b)[5], halved(b)); }

        /** As they are to be lifted off. */
        List<Integer> over(int i) {
            List<Integer> result = new ArrayList<>();
            int b = in(i);
            if (b == FLOOR) return result;
            result.addAll(over(b));
            List<Integer> pile = piles.get(b);
            for (int k = pile.size() - 1; k > pile.indexOf(i); k--) result.add(pile.get(k));
            return result;
        }

        List<Integer> around(int i) {
            List<Integer> result = new ArrayList<>();
            for (int b = in(i); b != FLOOR; b = in(b)) result.add(b);
            return result;
        }

        int whyNot(int i, int b, boolean handMatters) {
            if (in(i) != FLOOR) return -5;
            if (handMatters && !over(b).isEmpty()) return -5;
            if (i == b || around(b).contains(i)) return -8;
            if (outline(i) > lid(b)) return -9;
            World then = copied();
            then.piles.get(b).add(i);
            if (then.load(b) > bears(b)) return -10;
            for (int a : then.around(b)) if (then.load(a) > bears(a)) return -10;
            if (then.fill(b) > then.room(b)) return -11;
            if (isBox(i) && then.fill(i) > then.room(i)) return -11;
            return 0;
        }

        int putIn(int i, int b, boolean handMatters) {
            int why = whyNot(i, b, handMatters);
            if (why == 0) piles.get(b).add(i);
            return why;
        }

        int takeOut(int i) {
            if (in(i) == FLOOR || !over(i).isEmpty()) return -5;
            piles.get(in(i)).remove((Integer) i);
            return 0;
        }

        int packed() {
            int n = 0;
            for (List<Integer> pile : piles.values()) n += pile.size();
            return n;
        }

        int act(long v) {
            for (int i : all()) {
                if (v == 1000 + i) return takeOut(i);
                for (int b : piles.keySet()) if (v == 100 * b + i) return putIn(i, b, true);
            }
            return -2;
        }

        boolean allGoInto(List<Integer> things, int b) {
            World w = emptied();
            for (int i : things) if (w.putIn(i, b, true) != 0) return false;
            return true;
        }
    }

    static int roomOf(int size, int factor, int halved) {
        double room = size * factor;
        for (int h = 0; h < halved; h++) room /= 2;
        return (int) Math.floor(room);
    }

    World world = new World();
    StringBuilder tape = new StringBuilder();
    int fault = 0;
    int place = NONE;
    long[][] rows = new long[4][];
    int[] sorts = new int[4];
    World[] images = new World[2];

    // ---- the store

    int feed(int a, int b, int c, int d, int e) {
        if (tape.length() > 880) return -5;
        for (int v : new int[] {a, b, c, d, e}) for (int k = 3; k >= 0; k--) tape.append((char) ((v >>> 8 * k) & 255));
        return tape.length();
    }

    static final String[][] LINES = {
        {"box", "1-99", "by", "1-99", "lid", "1-99", "times", "1-64", "weight", "1-99", "bears", "1-9999", ";"},
        {"thing", "1-999", "by", "1-99", "weight", "1-99", "worth", "0-99", ";"}};
    static final int[][] KINDS = {{0, 1, 4, 5, 2, 6}, {0, 1, 2, 3}};

    int store(int n) {
        if (n < 0 || n > tape.length()) return -3;
        String text = tape.substring(0, n);
        tape.setLength(0);
        fault = 0;
        place = NONE;
        World w = new World();
        parse(text, w);
        if (fault != 0) return -30 - fault;
        world = w;
        return w.items.size();
    }

    private void parse(String text, World w) {
        Matcher m = Pattern.compile("[ \n]+|[a-z]+|[0-9]+|;|.", Pattern.DOTALL).matcher(text);
        String[] line = null;
        int step = 0;
        int[] values = null;
        int numbers = 0;
        int things = 0;
        while (m.find()) {
            String t = m.group();
            if (t.charAt(0) == ' ' || t.charAt(0) == '\n') continue;
            boolean isNumber = Character.isDigit(t.charAt(0)) && t.charAt(0) < 128;
            place = m.start();
            if (isNumber && t.length() > 4 || !t.matches("[a-z]+|[0-9]+|;")) { fault = 1; return; }
            if (line == null) {
                line = t.equals("box") ? LINES[0] : t.equals("thing") ? LINES[1] : null;
                if (line == null) { fault = 2; return; }
                if (line == LINES[0] && w.boxes() == 8 || line == LINES[1] && things == 16) { fault = 4; return; }
                step = 1;
                numbers = 0;
                values = new int[7];
                continue;
            }
            String due = line[step++];
            boolean dueNumber = due.contains("-");
            if (isNumber != dueNumber || !dueNumber && !due.equals(t)) { fault = 2; return; }
            if (isNumber) {
                int v = Integer.parseInt(t);
                String[] bounds = due.split("-");
                if (v < Integer.parseInt(bounds[0]) || v > Integer.parseInt(bounds[1])) { fault = 3; return; }
                values[KINDS[line == LINES[0] ? 0 : 1][numbers++]] = v;
            }
            if (t.equals(";")) {
                if (line == LINES[0]) {
                    int b = w.boxes();
                    w.items.put(b, values);
                    w.piles.put(b, new ArrayList<>());
                } else {
                    w.items.put(8 + things++, values);
                }
                line = null;
            }
        }
        place = NONE;
        if (line != null) { fault = 2; place = text.length(); }
    }

    int fault(int what) { return what == 0 ? fault : what == 1 ? place : NONE; }

    int item(int i, int what) {
        return !world.items.containsKey(i) || what < 0 || what > 6 ? -2 : world.items.get(i)[what];
    }

    // ---- where all lies

    int lies(int i, int what) {
        if (!world.items.containsKey(i)) return -2;
        if (what == 0) return world.in(i);
        if (what == 1) return world.over(i).size();
        if (what == 2) return world.heft(i);
        return what == 3 ? world.around(i).size() : -2;
    }

    int box(int b, int what) {
        if (!world.isBox(b)) return -2;
        if (what == 0) return world.room(b);
        if (what == 1) return world.fill(b);
        if (what == 2) return world.load(b);
        if (what == 3) return world.halved(b);
        if (what == 4) return world.piles.get(b).size();
        if (what < 10) return -2;
        return what - 10 < world.piles.get(b).size() ? world.piles.get(b).get(what - 10) : -7;
    }

    int may(int i, int b) {
        return !world.items.containsKey(i) || !world.isBox(b) ? -2 : world.whyNot(i, b, true);
    }

    int put(int i, int b) {
        if (!world.items.containsKey(i) || !world.isBox(b)) return -2;
        int why = world.putIn(i, b, true);
        return why != 0 ? why : world.piles.get(b).size();
    }

    int take(int i) {
        if (!world.items.containsKey(i)) return -2;
        int was = world.in(i);
        return world.takeOut(i) == 0 ? was : -5;
    }

    int empty() {
        int n = world.packed();
        world = world.emptied();
        return n;
    }

    int over(int i, int k) {
        if (!world.items.containsKey(i)) return -2;
        List<Integer> over = world.over(i);
        return k >= 0 && k < over.size() ? over.get(k) : NONE;
    }

    int judge(int row, int what) {
        if (row < 0 || row > 3 || what < 0 || what > 2) return -2;
        if (rows[row] == null) return -6;
        World w = world.copied();
        for (int k = 0; k < rows[row].length; k++) {
            int why = w.act(rows[row][k]);
            if (why != 0) return what == 0 ? k : what == 1 ? why : w.packed();
        }
        return what == 0 ? NONE : what == 1 ? 0 : w.packed();
    }

    int perform(int row) {
        if (row < 0 || row > 3) return -2;
        if (rows[row] == null) return -6;
        int done = 0;
        while (done < rows[row].length && world.act(rows[row][done]) == 0) done++;
        return done;
    }

    // ---- told packings

    /** What is wrong, and with whom; told: ITEM -> number. */
    static int[] wrongWith(World w, Map<Integer, Long> told) {
        for (int i : told.keySet()) {
            long v = told.get(i);
            if (v != NONE && (v < 0 || v >= w.boxes())) return new int[] {1, i};
        }
        for (int b : w.piles.keySet()) if (chain(b, told).contains((long) b)) return new int[] {2, b};
        for (int i : told.keySet()) {
            long v = told.get(i);
            if (v != NONE && w.outline(i) > w.lid((int) v)) return new int[] {3, i};
        }
        World as = w.emptied();
        for (int i : told.keySet()) if (told.get(i) != NONE) as.piles.get((int) (long) told.get(i)).add(i);
        for (int b : w.piles.keySet()) if (as.load(b) > w.bears(b)) return new int[] {4, b};
        for (int b : w.piles.keySet()) if (as.fill(b) > as.room(b)) return new int[] {5, b};
        return new int[] {0, NONE};
    }

    static List<Long> chain(int i, Map<Integer, Long> told) {
        List<Long> met = new ArrayList<>();
        for (long b = told.get(i); b != NONE && !met.contains(b); b = told.get((int) b)) met.add(b);
        return met;
    }

    private Map<Integer, Long> told(int row) {
        Map<Integer, Long> told = new TreeMap<>();
        int k = 0;
        for (int i : world.all()) told.put(i, rows[row][k++]);
        return told;
    }

    private int toldRefusal(int row) {
        if (row < 0 || row > 3) return -2;
        if (rows[row] == null) return -6;
        return rows[row].length != world.items.size() ? -7 : 0;
    }

    int packing(int row, int what) {
        if (what < 0 || what > 1) return -2;
        return toldRefusal(row) != 0 ? toldRefusal(row) : wrongWith(world, told(row))[what];
    }

    int how(int row, int k) {
        if (toldRefusal(row) != 0) return toldRefusal(row);
        Map<Integer, Long> told = told(row);
        if (wrongWith(world, told)[0] != 0) return -5;
        World w = world.emptied();
        List<Integer> acts = new ArrayList<>();
        boolean more = true;
        while (more) {
            more = false;
            for (int i : told.keySet()) {
                if (told.get(i) == NONE || w.in(i) != FLOOR) continue;
                boolean ready = true;
                for (int j : told.keySet()) if (told.get(j) == i && w.in(j) == FLOOR) ready = false;
                if (!ready) continue;
                if (w.putIn(i, (int) (long) told.get(i), true) != 0) throw new IllegalStateException("a sound packing does not come about");
                acts.add((int) (100 * told.get(i) + i));
                more = true;
                break;
            }
        }
        if (k == NONE) return acts.size();
        return k >= 0 && k < acts.size() ? acts.get(k) : NONE;
    }

    int lost(int row) {
        if (toldRefusal(row) != 0) return toldRefusal(row);
        Map<Integer, Long> told = told(row);
        for (long v : told.values()) if (v != NONE && (v < 0 || v >= world.boxes())) return -3;
        int bits = 0;
        boolean more = true;
        for (int b : world.piles.keySet()) if (chain(b, told).contains((long) b)) bits |= 1 << b;
        while (more) {
            more = false;
            for (int i : told.keySet()) {
                long v = told.get(i);
                if (v != NONE && (bits >> v & 1) != 0 && (bits >> i & 1) == 0) { bits |= 1 << i; more = true; }
            }
        }
        return bits;
    }

    // ---- sought

    private boolean onlyItems(int set) {
        for (int i = 0; i < 32; i++) if ((set >>> i & 1) != 0 && !world.items.containsKey(i)) return false;
        return true;
    }

    private boolean onlyThings(int set) { return onlyItems(set) && (set & 255) == 0; }

    private static List<Integer> list(int set) {
        List<Integer> result = new ArrayList<>();
        for (int i = 0; i < 32; i++) if ((set >>> i & 1) != 0) result.add(i);
        return result;
    }

    private static List<Integer> part(List<Integer> of, int choice) {
        List<Integer> result = new ArrayList<>();
        for (int k = 0; k < of.size(); k++) if ((choice >> k & 1) != 0) result.add(of.get(k));
        return result;
    }

    private static int bits(List<Integer> of) {
        int bits = 0;
        for (int i : of) bits |= 1 << i;
        return bits;
    }

    private int worth(List<Integer> of) {
        int sum = 0;
        for (int i : of) sum += world.worth(i);
        return sum;
    }

    int most(int b, int set, int what) {
        if (!world.isBox(b) || what < 0 || what > 1) return -2;
        if (!onlyItems(set)) return -3;
        List<Integer> from = new ArrayList<>();
        for (int i : list(set)) if (i >= 8 && world.in(i) == FLOOR && from.size() < 10) from.add(i);
        int best = -1;
        int bestBits = 0;
        for (int c = 0; c < 1 << from.size(); c++) {
            World w = world.copied();
            boolean can = true;
            for (int i : part(from, c)) can = can && w.putIn(i, b, false) == 0;
            int worth = worth(part(from, c));
            if (can && worth > best) { best = worth; bestBits = bits(part(from, c)); }
        }
        return what == 0 ? best : bestBits;
    }

    private boolean canTakeAll(List<Integer> boxes, int set) {
        return canTakeAll(boxes, list(set), 0, new int[8], new int[8]);
    }

    private boolean canTakeAll(List<Integer> boxes, List<Integer> things, int k, int[] fill, int[] load) {
        if (k == things.size()) return true;
        int i = things.get(k);
        for (int b : boxes) {
            if (world.outline(i) > world.lid(b) || load[b] + world.weight(i) > world.bears(b)) continue;
            if (fill[b] + world.size(i) > roomOf(world.size(b), world.items.get(b)[5], 0)) continue;
            fill[b] += world.size(i);
            load[b] += world.weight(i);
            boolean can = canTakeAll(boxes, things, k + 1, fill, load);
            fill[b] -= world.size(i);
            load[b] -= world.weight(i);
            if (can) return true;
        }
        return false;
    }

    private int householdOf(int set, boolean lightest) {
        int best = NONE;
        int bestFirst = 0;
        int bestSecond = 0;
        for (int s = 0; s < 1 << world.boxes(); s++) {
            int weight = 0;
            for (int b : list(s)) weight += world.weight(b);
            int first = lightest ? weight : Integer.bitCount(s);
            int second = lightest ? Integer.bitCount(s) : weight;
            if (best != NONE && (first > bestFirst || first == bestFirst && second >= bestSecond)) continue;
            if (canTakeAll(list(s), set)) { best = s; bestFirst = first; bestSecond = second; }
        }
        return best;
    }

    int household(int set, boolean lightest, int what) {
        if (what < 0 || what > 2) return -2;
        if (!onlyThings(set) || Integer.bitCount(set) > 10) return -3;
        int s = householdOf(set, lightest);
        if (s == NONE) return NONE;
        int weight = 0;
        for (int b : list(s)) weight += world.weight(b);
        return what == 0 ? Integer.bitCount(s) : what == 1 ? weight : s;
    }

    private boolean has(int set, int i) { return world.items.containsKey(i) && (set >>> i & 1) != 0; }

    int holds(int set, boolean lightest, int i) {
        if (!has(set, i)) return -2;
        if (!onlyThings(set) || Integer.bitCount(set) > 10) return -3;
        int s = householdOf(set, lightest);
        if (s == NONE) return NONE;
        List<Integer> left = new ArrayList<>(list(s));
        int rest = set;
        while (!left.isEmpty()) {
            int b = left.remove(0);
            for (int sub = rest; ; sub = (sub - 1) & rest) {
                if (world.allGoInto(list(sub), b) && canTakeAll(left, rest & ~sub)) {
                    if ((sub >> i & 1) != 0) return b;
                    rest &= ~sub;
                    break;
                }
            }
        }
        throw new IllegalStateException("a household that does not hold");
    }

    private List<Map<Integer, Long>> ways(int b, int set) {
        List<Map<Integer, Long>> ways = new ArrayList<>();
        List<Integer> items = list(set);
        List<Integer> hosts = list(set & 255 | 1 << b);
        int[] choice = new int[items.size()];
        while (true) {
            Map<Integer, Long> told = new TreeMap<>();
            for (int i : world.all()) told.put(i, (long) NONE);
            for (int k = 0; k < items.size(); k++) told.put(items.get(k), (long) hosts.get(choice[k]));
            boolean within = wrongWith(world, told)[0] == 0;
            for (int i : items) within = within && chain(i, told).contains((long) b);
            if (within) ways.add(told);
            int k = items.size() - 1;
            while (k >= 0 && choice[k] == hosts.size() - 1) choice[k--] = 0;
            if (k < 0) return ways;
            choice[k]++;
        }
    }

    int shut(int b, int set) {
        if (!world.isBox(b)) return -2;
        if (!onlyItems(set) || Integer.bitCount(set) > 6 || has(set, b)) return -3;
        return ways(b, set).size();
    }

    int shutIn(int b, int set, int i) {
        if (!world.isBox(b) || !has(set, i)) return -2;
        if (!onlyItems(set) || Integer.bitCount(set) > 6 || has(set, b)) return -3;
        List<Map<Integer, Long>> ways = ways(b, set);
        return ways.isEmpty() ? NONE : (int) (long) ways.get(0).get(i);
    }

    int even(int b, int other, int set, int what) {
        if (!world.isBox(b) || !world.isBox(other) || b == other || what < 0 || what > 1) return -2;
        if (!onlyThings(set) || Integer.bitCount(set) > 10) return -3;
        List<Integer> things = list(set);
        int best = NONE;
        int bestBits = 0;
        for (int c = 0; c < 1 << things.size(); c++) {
            List<Integer> one = part(things, c);
            List<Integer> two = part(things, ~c);
            if (!world.allGoInto(one, b) || !world.allGoInto(two, other)) continue;
            int apart = Math.abs(worth(one) - worth(two));
            if (best == NONE || apart < best) { best = apart; bestBits = bits(one); }
        }
        return best == NONE ? NONE : what == 0 ? best : bestBits;
    }

    int lightestFor(int i) {
        if (!world.items.containsKey(i)) return -2;
        int best = NONE;
        for (int b : world.piles.keySet()) {
            if (world.emptied().whyNot(i, b, true) != 0) continue;
            if (best == NONE || world.weight(b) < world.weight(best)) best = b;
        }
        return best;
    }

    int nest(int k) {
        List<Integer> best = new ArrayList<>();
        for (int b : world.piles.keySet()) {
            List<Integer> row = new ArrayList<>(Collections.singletonList(b));
            List<Integer> found = longestNest(world.emptied(), row);
            if (found.size() > best.size()) best = found;
        }
        if (k == NONE) return best.size();
        return k >= 0 && k < best.size() ? best.get(k) : NONE;
    }

    private List<Integer> longestNest(World w, List<Integer> row) {
        List<Integer> best = row;
        for (int b : w.piles.keySet()) {
            if (row.contains(b)) continue;
            World then = w.copied();
            if (then.putIn(row.get(row.size() - 1), b, true) != 0) continue;
            List<Integer> longer = new ArrayList<>(row);
            longer.add(b);
            List<Integer> found = longestNest(then, longer);
            if (found.size() > best.size()) best = found;
        }
        return best;
    }

    private int wantedRefusal(int row, int atMost) {
        List<Long> seen = new ArrayList<>();
        for (long v : rows[row]) {
            if (v < 0 || v > 23 || !world.items.containsKey((int) v) || seen.contains(v)) return -3;
            seen.add(v);
        }
        return seen.size() > atMost ? -3 : 0;
    }

    private int voyageOf(List<Integer> wanted) {
        World w = world.copied();
        int liftings = 0;
        for (int i : wanted) {
            liftings += w.over(i).size();
            if (w.in(i) != FLOOR) w.piles.get(w.in(i)).remove((Integer) i);
        }
        return liftings;
    }

    int voyage(int row) {
        if (row < 0 || row > 3) return -2;
        if (rows[row] == null) return -6;
        if (wantedRefusal(row, 40) != 0) return -3;
        List<Integer> wanted = new ArrayList<>();
        for (long v : rows[row]) wanted.add((int) v);
        return voyageOf(wanted);
    }

    int voyages(int row, int what) {
        if (row < 0 || row > 3 || what != 0 && (what < 10 || what > 14)) return -2;
        if (rows[row] == null) return -6;
        if (wantedRefusal(row, 5) != 0) return -3;
        List<Integer> wanted = new ArrayList<>();
        for (long v : rows[row]) wanted.add((int) v);
        Collections.sort(wanted);
        List<List<Integer>> orders = new ArrayList<>();
        permute(wanted, new ArrayList<>(), orders);
        List<Integer> best = null;
        for (List<Integer> order : orders) if (best == null || voyageOf(order) < voyageOf(best)) best = order;
        if (what == 0) return voyageOf(best);
        return what - 10 < best.size() ? best.get(what - 10) : NONE;
    }

    private static void permute(List<Integer> from, List<Integer> sofar, List<List<Integer>> into) {
        if (sofar.size() == from.size()) into.add(new ArrayList<>(sofar));
        for (int i : from) {
            if (sofar.contains(i)) continue;
            sofar.add(i);
            permute(from, sofar, into);
            sofar.remove(sofar.size() - 1);
        }
    }

    private List<Integer> firstTwelve(int set) {
        List<Integer> things = list(set);
        return things.size() > 12 ? things.subList(0, 12) : things;
    }

    private List<Integer> chestSets(int b, int set, int n, int w, int f) {
        List<Integer> found = new ArrayList<>();
        List<Integer> things = firstTwelve(set);
        for (int c = 0; c < 1 << things.size(); c++) {
            List<Integer> in = part(things, c);
            int weight = 0;
            int size = 0;
            for (int i : in) { weight += world.weight(i); size += world.size(i); }
            if (n != NONE && in.size() != n || weight != w || f != NONE && size != f) continue;
            if (world.allGoInto(in, b)) found.add(bits(in));
        }
        return found;
    }

    private int chestRefusal(int b, int set, int n, int w) {
        if (!world.isBox(b)) return -2;
        return !onlyThings(set) || n < 0 || n > 12 || w < 0 ? -3 : 0;
    }

    int chest(int b, int set, int n, int w) {
        return chestRefusal(b, set, n, w) != 0 ? chestRefusal(b, set, n, w) : chestSets(b, set, n, w, NONE).size();
    }

    int sure(int b, int set, int n, int w, boolean isIn) {
        if (chestRefusal(b, set, n, w) != 0) return chestRefusal(b, set, n, w);
        List<Integer> sets = chestSets(b, set, n, w, NONE);
        if (sets.isEmpty()) return 0;
        int bits = 0;
        for (int i : firstTwelve(set)) {
            boolean always = true;
            for (int s : sets) always = always && ((s >> i & 1) != 0) == isIn;
            if (always) bits |= 1 << i;
        }
        return bits;
    }

    int look(int b, int set, int n, int w) {
        if (chestRefusal(b, set, n, w) != 0) return chestRefusal(b, set, n, w);
        List<Integer> sets = chestSets(b, set, n, w, NONE);
        if (sets.size() <= 1) return NONE;
        int best = NONE;
        int bestLeft = 0;
        for (int i : firstTwelve(set)) {
            int in = 0;
            for (int s : sets) in += s >> i & 1;
            int left = Math.max(in, sets.size() - in);
            if (best == NONE || left < bestLeft) { best = i; bestLeft = left; }
        }
        return best;
    }

    int looks(int b, int set, int n, int w) {
        if (chestRefusal(b, set, n, w) != 0) return chestRefusal(b, set, n, w);
        List<Integer> sets = chestSets(b, set, n, w, NONE);
        if (sets.isEmpty()) return NONE;
        return sets.size() > 12 ? -4 : looksFor(sets, new HashMap<>());
    }

    private int looksFor(List<Integer> sets, Map<List<Integer>, Integer> known) {
        if (sets.size() <= 1) return 0;
        if (known.containsKey(sets)) return known.get(sets);
        int best = 99;
        for (int i = 8; i < 24; i++) {
            List<Integer> with = new ArrayList<>();
            List<Integer> without = new ArrayList<>();
            for (int s : sets) ((s >> i & 1) != 0 ? with : without).add(s);
            if (with.isEmpty() || without.isEmpty()) continue;
            best = Math.min(best, 1 + Math.max(looksFor(with, known), looksFor(without, known)));
        }
        known.put(sets, best);
        return best;
    }

    int sounded(int b, int set, int w, int f) {
        if (!world.isBox(b)) return -2;
        if (!onlyThings(set) || w < 0 || f < 0) return -3;
        return chestSets(b, set, NONE, w, f).size();
    }

    int needs(int b) {
        if (!world.isBox(b)) return -2;
        for (int f = 1; f <= 64; f++) if (roomOf(world.size(b), f, world.halved(b)) >= world.fill(b)) return f;
        return NONE;
    }

    int room(int size, int factor, int halved) {
        if (size < 1 || size > 99 || factor < 1 || factor > 64 || halved < 0 || halved > 9) return -3;
        return roomOf(size, factor, halved);
    }

    int deepest(int b) {
        if (!world.isBox(b)) return -2;
        int best = NONE;
        for (int h = 0; h <= 9; h++) if (roomOf(world.size(b), world.items.get(b)[5], h) >= world.fill(b)) best = h;
        return best;
    }

    int carriers(int seed, int times) {
        List<Integer> all = world.all();
        if (all.isEmpty()) return -5;
        if (times < 1 || times > 60) return -3;
        int x = seed;
        int moved = 0;
        for (int t = 0; t < times; t++) {
            x = 1103515245 * x + 12345;
            int i = all.get((x >>> 16) % all.size());
            if (world.in(i) != FLOOR) {
                if (world.takeOut(i) == 0) moved++;
            } else if (world.boxes() > 0) {
                x = 1103515245 * x + 12345;
                if (world.putIn(i, (x >>> 16) % world.boxes(), true) == 0) moved++;
            }
        }
        return moved;
    }

    // ---- rows of numbers, images

    int numbers(int row, int sort, int n) {
        if (row < 0 || row > 3 || sort < 0 || sort > 3) return -2;
        if (n < 0 || n > 40) return -3;
        rows[row] = new long[n];
        sorts[row] = sort;
        return 0;
    }

    long write(int row, int i, long v) {
        if (row < 0 || row > 3) return -2;
        if (rows[row] == null) return -6;
        if (i < 0 || i >= rows[row].length) return -7;
        int bits = 8 << sorts[row];
        rows[row][i] = v << 64 - bits >> 64 - bits;
        return rows[row][i];
    }

    int copy(int row) {
        if (row < 0 || row > 3) return -2;
        if (rows[row] == null) return -6;
        if (rows[row].length < world.items.size()) return -7;
        int k = 0;
        for (int i : world.all()) rows[row][k++] = world.in(i);
        return k;
    }

    int image(int i) {
        if (i < 0 || i > 1) return -2;
        images[i] = world.copied();
        return 0;
    }

    int restore(int i) {
        if (i < 0 || i > 1) return -2;
        if (images[i] == null) return -5;
        world = images[i].copied();
        return 0;
    }

    int count(int what) {
        if (what == 0) return world.boxes();
        if (what == 1) return world.items.size() - world.boxes();
        if (what == 2) return world.items.size();
        if (what == 3) return world.packed();
        if (what == 4) return tape.length();
        if (what != 5) return NONE;
        int sum = 0;
        for (int i : world.all()) if (world.in(i) != FLOOR) sum += world.worth(i);
        return sum;
    }

    @Override public String toString() { return world.piles + " " + Arrays.toString(rows); }
}
