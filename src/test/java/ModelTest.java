import java.util.Random;

/** Long runs of drawn calls on a new object, each answer compared with the plain model's. */
public final class ModelTest {
    private static final int RUNS = 600;
    private static final int CALLS = 512;
    private static final String[] CALL_NAMES = {
        "lies", "box", "may", "put", "put", "put", "put", "take", "take", "empty", "over", "judge", "perform",
        "packing", "packing", "how", "lost", "most", "household", "holds", "shut", "shutIn", "even", "lightestFor",
        "nest", "voyage", "voyages", "chest", "sure", "look", "looks", "sounded", "needs", "room", "deepest",
        "carriers", "copy", "image", "restore", "count", "fault", "item", "text", "rowOfActs", "rowOfBoxes",
        "rowOfItems", "numbers", "write", "feed", "store", "copiedRow", "allOver", "carriers", "looks", "sure"};

    private final Random random;
    private final LargerWithin real = new LargerWithin();
    private final Model model = new Model();
    private final int run;
    private int calls = 0;
    private int wrong = 0;
    /** Whether things are much alike and boxes large, so that there are many ways. */
    private boolean alike;
    private final StringBuilder log = new StringBuilder();

    private ModelTest(int run) {
        this.run = run;
        random = new Random(run);
    }

    public static void main(String[] args) {
        int wrong = 0;
        for (int run = 0; run < RUNS; run++) {
            ModelTest test = new ModelTest(run);
            test.go();
            wrong += test.wrong;
        }
        System.out.println("ModelTest: " + RUNS + " runs, " + wrong + " wrong");
        if (wrong != 0) System.exit(1);
    }

    private void go() {
        alike = random.nextInt(3) == 0;
        newText(false);
        while (calls < CALLS - 60 && wrong == 0) one(CALL_NAMES[random.nextInt(CALL_NAMES.length)]);
    }

    private void due(String call, long got, long want) {
        calls++;
        log.append(call).append(" = ").append(want).append('\n');
        if (got != want) {
            wrong++;
            System.out.println("run " + run + ": " + call + " answered " + got + ", due is " + want);
            System.out.println(log);
        }
    }

    private int some(int from, int to) { return from + random.nextInt(to - from + 1); }

    private boolean rarely() { return random.nextInt(25) == 0; }

    private int strange() {
        int[] odd = {-1, -2, Integer.MIN_VALUE, Integer.MAX_VALUE, 24, 31, 32, 100, -100, 8, 7, 99, 1 << 20};
        return odd[random.nextInt(odd.length)];
    }

    private int anItem() {
        if (rarely()) return strange();
        int boxes = model.world.boxes();
        int things = model.world.items.size() - boxes;
        boolean isBox = random.nextInt(3) == 0 && boxes > 0 || things == 0;
        return isBox ? some(0, Math.max(0, boxes - 1)) : some(8, 7 + things);
    }

    private int aBox() { return rarely() ? strange() : some(0, Math.max(0, model.world.boxes() - 1)); }

    private int aRow() { return rarely() ? strange() : some(0, 3); }

    private int aWhat(int most) { return random.nextInt(15) == 0 ? some(-2, 16) : some(0, most); }

    private int aSet(boolean things, boolean boxes, int most) {
        if (rarely()) return random.nextInt();
        int set = 0;
        int wanted = some(0, most + (rarely() ? 3 : 0));
        for (int t = 0; t < 40 && Integer.bitCount(set) < wanted; t++) {
            int i = boxes && (!things || random.nextBoolean()) ? aBox() : 8 + random.nextInt(16);
            boolean known = model.world.items.containsKey(i);
            if (known && (i < 8 ? boxes : things)) set |= 1 << i;
        }
        return set;
    }

    /** A real choice of a set's THINGS, so that there is something to find. */
    private int choiceOf(int set, int n) {
        int choice = 0;
        for (int i = 8; i < 24; i++) {
            boolean taken = Integer.bitCount(choice) < n && random.nextInt(4) != 0;
            if (taken && (set >>> i & 1) != 0 && model.world.items.containsKey(i)) choice |= 1 << i;
        }
        return choice;
    }

    private int sumOf(int choice, int kind) {
        int sum = 0;
        for (int i = 8; i < 24; i++) if ((choice >>> i & 1) != 0) sum += model.world.items.get(i)[kind];
        return rarely() ? -sum : sum;
    }

    private String boxLine() {
        if (alike) return "box " + some(5, 9) + " by 5 lid " + some(5, 9) + " times " + some(2, 20) + " weight " + some(1, 2) + " bears " + some(10, 50) + ";";
        boolean roomy = random.nextBoolean();
        return "box " + some(1, roomy ? 40 : 12) + " by " + some(1, 12) + " lid " + some(6, 14) + " times "
            + some(1, roomy ? 30 : 8) + " weight " + some(1, 6) + " bears " + some(5, random.nextBoolean() ? 40 : 200) + ";";
    }

    private String thingLine() {
        if (alike) return "thing " + some(1, 3) + " by " + some(4, 6) + " weight " + some(1, 3) + " worth " + some(0, 3) + ";";
        return "thing " + some(1, random.nextBoolean() ? 12 : 60) + " by " + some(1, 9) + " weight " + some(1, rarely() ? 60 : 7)
            + " worth " + some(0, 9) + ";";
    }

    private void newText(boolean mayBeBad) {
        StringBuilder text = new StringBuilder();
        int boxes = some(0, 10) == 0 ? 0 : some(1, random.nextBoolean() ? 4 : 8);
        int things = some(0, random.nextBoolean() ? 6 : 16);
        while (boxes + things > 0) {
            boolean isBox = random.nextInt(boxes + things) < boxes;
            text.append(isBox ? boxLine() : thingLine());
            if (isBox) boxes--; else things--;
            if (rarely()) text.append(random.nextBoolean() ? "\n " : " ");
        }
        if (mayBeBad) spoil(text);
        feedAndStore(text.length() > 900 ? text.substring(0, 900) : text.toString());
    }

    private void spoil(StringBuilder text) {
        String odd = "a1;0 \n9bZ,~box thing" + (char) 233 + (char) 0;
        for (int t = some(0, 3); t > 0 && text.length() > 0; t--) {
            int at = random.nextInt(text.length());
            switch (random.nextInt(4)) {
                case 0: text.setCharAt(at, odd.charAt(random.nextInt(odd.length()))); break;
                case 1: text.deleteCharAt(at); break;
                case 2: text.insert(at, odd.charAt(random.nextInt(odd.length()))); break;
                default: text.setLength(at);
            }
        }
    }

    private void feedAndStore(String text) {
        int onTape = model.tape.length();
        if (onTape > 0) due("store(" + onTape + ")", real.store(onTape), model.store(onTape));
        for (int at = 0; at < text.length(); at += 20) {
            int[] v = new int[5];
            for (int k = 0; k < 20; k++) v[k / 4] = v[k / 4] << 8 | (at + k < text.length() ? text.charAt(at + k) : 32);
            due("feed(..)", real.feed(v[0], v[1], v[2], v[3], v[4]), model.feed(v[0], v[1], v[2], v[3], v[4]));
        }
        log.append(text).append('\n');
        due("store(" + text.length() + ")", real.store(text.length()), model.store(text.length()));
        due("fault(0)", real.fault(0), model.fault(0));
        due("fault(1)", real.fault(1), model.fault(1));
    }

    private void fillRow(int sort, int n, int kind) {
        int row = some(0, 3);
        due("numbers(" + row + ", " + sort + ", " + n + ")", real.numbers(row, sort, n), model.numbers(row, sort, n));
        int seen = 0;
        for (int k = 0; k < n; k++) {
            long v;
            if (kind == 0) v = random.nextInt(4) == 0 ? 1000 + anItem() : 100L * aBox() + anItem();
            else if (kind == 1) v = random.nextInt(3) == 0 ? -1 : random.nextInt(60) == 0 ? strange() : aBox();
            else v = anItem();
            for (int t = 0; kind == 2 && t < 9 && (seen >> v & 1) != 0; t++) v = anItem();
            seen |= 1 << v;
            if (random.nextInt(200) == 0) v = random.nextLong();
            due("write(" + row + ", " + k + ", " + v + ")", real.write(row, k, v), model.write(row, k, v));
        }
        useRow(row, kind);
    }

    private void useRow(int row, int kind) {
        for (int w = 0; w < 3 && kind == 0; w++) due("judge(" + row + ", " + w + ")", real.judge(row, w), model.judge(row, w));
        for (int w = 0; w < 2 && kind == 1; w++) due("packing(" + row + ", " + w + ")", real.packing(row, w), model.packing(row, w));
        if (kind == 1) due("lost(" + row + ")", real.lost(row), model.lost(row));
        for (int k = -2; k < 6 && kind == 1; k++) due("how(" + row + ", " + k + ")", real.how(row, k), model.how(row, k));
        if (kind == 2) due("voyage(" + row + ")", real.voyage(row), model.voyage(row));
        if (kind == 2) due("voyages(" + row + ", 0)", real.voyages(row, 0), model.voyages(row, 0));
        for (int w = 10; w < 15 && kind == 2; w++) due("voyages(" + row + ", " + w + ")", real.voyages(row, w), model.voyages(row, w));
    }

    /** A packing as it lies, with a number or two changed: mostly sound, or nearly. */
    private void copiedRow() {
        int n = model.world.items.size();
        int row = some(0, 3);
        int sort = some(0, 3);
        due("numbers(" + row + ", " + sort + ", " + n + ")", real.numbers(row, sort, n), model.numbers(row, sort, n));
        due("copy(" + row + ")", real.copy(row), model.copy(row));
        for (int t = some(0, 2); t > 0 && n > 0; t--) {
            int k = random.nextInt(n);
            int v = aBox();
            due("write(" + row + ", " + k + ", " + v + ")", real.write(row, k, v), model.write(row, k, v));
        }
        useRow(row, 1);
    }

    private void allOver() {
        for (int i : model.world.all()) {
            if (random.nextInt(3) != 0) continue;
            for (int k = 0; k <= model.world.over(i).size(); k++) due("over(" + i + ", " + k + ")", real.over(i, k), model.over(i, k));
        }
    }

    private void one(String name) {
        int i = anItem();
        int b = aBox();
        int row = aRow();
        int k = random.nextInt(3) == 0 ? -1 : some(-2, 9);
        boolean flag = random.nextBoolean();
        switch (name) {
            case "lies": { int w = aWhat(3); due("lies(" + i + ", " + w + ")", real.lies(i, w), model.lies(i, w)); break; }
            case "box": { int w = flag ? aWhat(4) : some(10, 15); due("box(" + b + ", " + w + ")", real.box(b, w), model.box(b, w)); break; }
            case "may": due("may(" + i + ", " + b + ")", real.may(i, b), model.may(i, b)); break;
            case "put": due("put(" + i + ", " + b + ")", real.put(i, b), model.put(i, b)); break;
            case "take": due("take(" + i + ")", real.take(i), model.take(i)); break;
            case "empty": if (random.nextInt(3) == 0) due("empty()", real.empty(), model.empty()); break;
            case "over": due("over(" + i + ", " + k + ")", real.over(i, k), model.over(i, k)); break;
            case "judge": { int w = aWhat(2); due("judge(" + row + ", " + w + ")", real.judge(row, w), model.judge(row, w)); break; }
            case "perform": due("perform(" + row + ")", real.perform(row), model.perform(row)); break;
            case "packing": { int w = aWhat(1); due("packing(" + row + ", " + w + ")", real.packing(row, w), model.packing(row, w)); break; }
            case "how": due("how(" + row + ", " + k + ")", real.how(row, k), model.how(row, k)); break;
            case "lost": due("lost(" + row + ")", real.lost(row), model.lost(row)); break;
            case "needs": due("needs(" + b + ")", real.needs(b), model.needs(b)); break;
            case "deepest": due("deepest(" + b + ")", real.deepest(b), model.deepest(b)); break;
            case "nest": due("nest(" + k + ")", real.nest(k), model.nest(k)); break;
            case "lightestFor": due("lightestFor(" + i + ")", real.lightestFor(i), model.lightestFor(i)); break;
            case "voyage": due("voyage(" + row + ")", real.voyage(row), model.voyage(row)); break;
            case "voyages": { int w = flag ? 0 : some(9, 15); due("voyages(" + row + ", " + w + ")", real.voyages(row, w), model.voyages(row, w)); break; }
            case "copy": due("copy(" + row + ")", real.copy(row), model.copy(row)); break;
            case "image": { int g = some(-1, 2); due("image(" + g + ")", real.image(g), model.image(g)); break; }
            case "restore": if (random.nextInt(3) == 0) { int g = some(-1, 2); due("restore(" + g + ")", real.restore(g), model.restore(g)); } break;
            case "count": { int w = aWhat(5); due("count(" + w + ")", real.count(w), model.count(w)); break; }
            case "fault": { int w = aWhat(1); due("fault(" + w + ")", real.fault(w), model.fault(w)); break; }
            case "item": { int w = aWhat(6); due("item(" + i + ", " + w + ")", real.item(i, w), model.item(i, w)); break; }
            default: other(name, i, b, flag);
        }
    }

    private void other(String name, int i, int b, boolean flag) {
        switch (name) {
            case "most": { int s = aSet(true, random.nextInt(3) == 0, 9); int w = aWhat(1); due("most(" + b + ", " + s + ", " + w + ")", real.most(b, s, w), model.most(b, s, w)); break; }
            case "household": { int s = aSet(true, false, flag ? 4 : 8); int w = aWhat(2); boolean l = random.nextBoolean(); due("household(" + s + ", " + l + ", " + w + ")", real.household(s, l, w), model.household(s, l, w)); break; }
            case "holds": { int s = aSet(true, false, flag ? 4 : 8); if (random.nextBoolean() && (s & 0xffff00) != 0) i = Integer.numberOfTrailingZeros(s); boolean l = random.nextBoolean(); due("holds(" + s + ", " + l + ", " + i + ")", real.holds(s, l, i), model.holds(s, l, i)); break; }
            case "shut": { int s = aSet(true, true, 4); if (flag) s &= ~(1 << b); due("shut(" + b + ", " + s + ")", real.shut(b, s), model.shut(b, s)); break; }
            case "shutIn": { int s = aSet(true, true, 4) & ~(1 << b); if (flag && s != 0) i = 31 - Integer.numberOfLeadingZeros(s); due("shutIn(" + b + ", " + s + ", " + i + ")", real.shutIn(b, s, i), model.shutIn(b, s, i)); break; }
            case "even": { int o = aBox(); int s = aSet(true, false, 7); int w = aWhat(1); due("even(" + b + ", " + o + ", " + s + ", " + w + ")", real.even(b, o, s, w), model.even(b, o, s, w)); break; }
            case "chest": case "sure": case "look": case "looks": case "sounded": chest(name, b); break;
            case "room": { int z = some(-1, 101); int f = some(-1, 66); int h = some(-1, 10); due("room(" + z + ", " + f + ", " + h + ")", real.room(z, f, h), model.room(z, f, h)); break; }
            case "carriers": { int x = random.nextInt(); int t = rarely() ? some(-1, 70) : some(1, 60); due("carriers(" + x + ", " + t + ")", real.carriers(x, t), model.carriers(x, t)); break; }
            case "text": if (random.nextInt(4) == 0) newText(random.nextInt(3) != 0); break;
            case "copiedRow": copiedRow(); break;
            case "allOver": allOver(); break;
            case "rowOfActs": fillRow(some(1, 3), some(0, 12), 0); break;
            case "rowOfBoxes": fillRow(some(0, 3), rarely() ? some(0, 24) : model.world.items.size(), 1); break;
            case "rowOfItems": fillRow(some(0, 3), some(0, 6), 2); break;
            case "numbers": if (rarely()) { int r = some(-1, 4); int s = some(-1, 4); int n = some(-1, 41); due("numbers(" + r + ", " + s + ", " + n + ")", real.numbers(r, s, n), model.numbers(r, s, n)); } break;
            case "write": { int r = aRow(); int p = some(-1, 40); long v = random.nextLong() >> random.nextInt(64); due("write(" + r + ", " + p + ", " + v + ")", real.write(r, p, v), model.write(r, p, v)); break; }
            case "feed": { int v = random.nextInt(); due("feed(" + v + ", ..)", real.feed(v, 1, 2, 3, 4), model.feed(v, 1, 2, 3, 4)); break; }
            case "store": if (flag) { int n = strange(); due("store(" + n + ")", real.store(n), model.store(n)); } break;
            default: throw new IllegalStateException(name);
        }
    }

    private void chest(String name, int b) {
        int s = aSet(true, false, random.nextInt(4) == 0 ? 14 : 8);
        int n = rarely() ? some(-1, 13) : some(0, Math.min(12, Integer.bitCount(s & 0xffffff)));
        int choice = choiceOf(s, n);
        int w = sumOf(choice, 2);
        int f = sumOf(choice, 0);
        boolean in = random.nextBoolean();
        String args = "(" + b + ", " + s + ", " + n + ", " + w + ")";
        switch (name) {
            case "chest": due(name + args, real.chest(b, s, n, w), model.chest(b, s, n, w)); break;
            case "sure": due(name + args + in, real.sure(b, s, n, w, in), model.sure(b, s, n, w, in)); break;
            case "look": due(name + args, real.look(b, s, n, w), model.look(b, s, n, w)); break;
            case "looks": due(name + args, real.looks(b, s, n, w), model.looks(b, s, n, w)); break;
            default: due("sounded(" + b + ", " + s + ", " + w + ", " + f + ")", real.sounded(b, s, w, f), model.sounded(b, s, w, f));
        }
    }
}
