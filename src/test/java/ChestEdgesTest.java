import java.util.ArrayList;
import java.util.List;

/** The edges that the document names for chests, factors and carriers: promises 28 to 36. */
public final class ChestEdgesTest {
    private static final int MIN = Integer.MIN_VALUE;
    private static final int MAX = Integer.MAX_VALUE;
    private static final String WIDE = Due.box(9, 1, 9, 64, 1, 9999);
    private static final String SMALL = Due.thing(1, 1, 1, 1);
    private static final int THINGS = 0xffff00;

    public static void main(String[] args) {
        emptyStore();
        refused();
        whichSets();
        howManyThings();
        firstTwelve();
        couldAllBePut();
        asIfEmpty();
        sureOrOut();
        lookOrNone();
        looksOfOneSet();
        looksOfTwelveSets();
        looksOfAllKinds();
        looksByOneOfMany();
        soundedBounds();
        soundedJustFits();
        needsLeastFactor();
        roomBounds();
        roomOfAll();
        deepestBounds();
        carriersBounds();
        carriersWithoutBoxes();
        carriersByDraws();
        Due.end("ChestEdgesTest");
    }

    private static void emptyStore() {
        LargerWithin x = new LargerWithin();
        Due.is("empty: chest", x.chest(0, 0, 0, 0), -2);
        Due.is("empty: sure", x.sure(0, 0, 0, 0, true), -2);
        Due.is("empty: look", x.look(0, 0, 0, 0), -2);
        Due.is("empty: looks", x.looks(0, 0, 0, 0), -2);
        Due.is("empty: sounded", x.sounded(0, 0, 0, 0), -2);
        Due.is("empty: needs", x.needs(0), -2);
        Due.is("empty: deepest", x.deepest(0), -2);
        Due.is("empty: room", x.room(1, 1, 0), 1);
        Due.is("empty: carriers", x.carriers(0, 1), -5);
    }

    private static void ask(LargerWithin x, String name, int due, int b, int set, int n, int w) {
        Due.is("chest: " + name, x.chest(b, set, n, w), due);
        Due.is("sure: " + name, x.sure(b, set, n, w, true), due);
        Due.is("out: " + name, x.sure(b, set, n, w, false), due);
        Due.is("look: " + name, x.look(b, set, n, w), due);
        Due.is("looks: " + name, x.looks(b, set, n, w), due);
    }

    // "-2: the BOX; -3: a set with others than THINGS, n (0 to 12), w below 0"
    private static void refused() {
        LargerWithin x = Due.with(WIDE + SMALL);
        for (int b : new int[] {-1, 1, 7, 8, 32, MIN, MAX}) {
            ask(x, "BOX " + b, -2, b, -1, -1, -1);
            Due.is("sounded: BOX " + b, x.sounded(b, -1, -1, -1), -2);
        }
        for (int n : new int[] {-1, 13, MIN, MAX}) ask(x, "n " + n, -3, 0, 256, n, 1);
        for (int w : new int[] {-1, -2, MIN}) ask(x, "w " + w, -3, 0, 256, 1, w);
        for (int set : new int[] {1, 257, 512, -1, MIN, 1 << 24}) ask(x, "set " + set, -3, 0, set, 1, 1);
        Due.is("n 0, w 0", x.chest(0, 256, 0, 0), 1);
        Due.is("n 12", x.chest(0, 256, 12, 12), 0);
        Due.is("w 0", x.chest(0, 256, 1, 0), 0);
        Due.is("the greatest w", x.chest(0, 256, 1, MAX), 0);
        Due.is("no set", x.chest(0, 0, 0, 0), 1);
    }

    private static void whichSets() {
        LargerWithin x = Due.with(Due.times(WIDE, 2) + Due.times(SMALL, 3));
        for (int bit = 0; bit < 32; bit++) {
            boolean isThing = bit >= 8 && bit < 11;
            Due.is("chest of " + bit, x.chest(1, 1 << bit, 1, 1), isThing ? 1 : -3);
            Due.is("sounded of " + bit, x.sounded(1, 1 << bit, 1, 1), isThing ? 1 : -3);
        }
        LargerWithin full = Due.with(Due.times(WIDE, 8) + Due.times(SMALL, 16));
        for (int bit = 24; bit < 32; bit++) Due.is("full: chest of " + bit, full.chest(7, 256 | 1 << bit, 1, 1), -3);
        for (int bit = 8; bit < 24; bit++) Due.is("full: chest of " + bit, full.chest(7, 1 << bit, 1, 1), 1);
    }

    private static void howManyThings() {
        LargerWithin x = Due.with(WIDE + Due.times(SMALL, 16));
        int ways = 1;
        for (int n = 0; n <= 12; n++) {
            Due.is(n + " of twelve", x.chest(0, 0xfff00, n, n), ways);
            Due.is(n + " of sixteen: of the first twelve", x.chest(0, THINGS, n, n), ways);
            Due.is(n + " of another WEIGHT", x.chest(0, 0xfff00, n, n + 1), 0);
            ways = ways * (12 - n) / (n + 1);
        }
        Due.is("thirteen", x.chest(0, THINGS, 13, 13), -3);
        Due.is("twelve of eleven", x.chest(0, 0x7ff00, 12, 12), 0);
    }

    // "(at most 12 of it, the first ones)"
    private static void firstTwelve() {
        StringBuilder text = new StringBuilder(WIDE);
        for (int t = 1; t <= 16; t++) text.append(Due.thing(t, 1, t, 1));
        LargerWithin x = Due.with(text.toString());
        Due.is("the twelfth", x.chest(0, THINGS, 1, 12), 1);
        Due.is("the thirteenth", x.chest(0, THINGS, 1, 13), 0);
        Due.is("the thirteenth, if the first is not of the set", x.chest(0, THINGS & ~256, 1, 13), 1);
        Due.is("sounded: the twelfth", x.sounded(0, 0xf80000, 12, 12), 1);
        Due.is("sounded: 13 by others of the first twelve", x.sounded(0, THINGS, 13, 13), 17);
        Due.is("sounded: 79 is above all twelve", x.sounded(0, THINGS, 79, 79), 0);
        Due.is("sounded: 78 is all twelve", x.sounded(0, THINGS, 78, 78), 1);
        Due.is("which are in", x.sure(0, THINGS, 12, 78, true), 0xfff00);
    }

    // "that could all be PUT"
    private static void couldAllBePut() {
        LargerWithin x = Due.with(Due.box(5, 1, 3, 2, 1, 7) + Due.thing(4, 3, 3, 1) + Due.thing(6, 3, 4, 1) + Due.thing(7, 3, 4, 1) + Due.thing(1, 4, 1, 1) + Due.thing(6, 1, 5, 1));
        Due.is("as its ROOM, LID, as it BEARS", x.chest(0, 0x300, 2, 7), 1);
        Due.is("above its ROOM", x.chest(0, 0x500, 2, 7), 0);
        Due.is("only one of both", x.chest(0, 0x700, 2, 7), 1);
        Due.is("above the LID", x.chest(0, 0x800, 1, 1), 0);
        Due.is("above what it BEARS", x.chest(0, 0x1100, 2, 8), 0);
        Due.is("nothing always can be", x.chest(0, 0x1f00, 0, 0), 1);
    }

    // "a BOX as if it were empty and on THE FLOOR"
    private static void asIfEmpty() {
        LargerWithin x = Due.with(Due.box(5, 1, 3, 2, 1, 7) + WIDE + Due.thing(4, 3, 3, 1) + Due.thing(6, 3, 4, 1) + Due.thing(1, 1, 4, 1));
        x.put(8, 0);
        x.put(0, 1);
        x.put(10, 1);
        Due.is("ROOM is not HALVED, nothing IN it", x.chest(0, 0x300, 2, 7), 1);
        Due.is("sounded likewise", x.sounded(0, 0x300, 7, 10), 1);
        Due.is("it lies where it lay", x.lies(8, 0), 0);
    }

    // "SURE are THINGS that are in all of them, OUT those that are in none", "(0, if there is no such set)"
    private static void sureOrOut() {
        LargerWithin x = Due.with(WIDE + Due.thing(1, 1, 1, 1) + Due.thing(1, 1, 2, 1) + Due.thing(1, 1, 2, 1) + Due.thing(1, 1, 9, 1));
        Due.is("no such set: in", x.sure(0, 0xf00, 2, 5, true), 0);
        Due.is("no such set: out", x.sure(0, 0xf00, 2, 5, false), 0);
        Due.is("two sets: in", x.sure(0, 0xf00, 2, 3, true), 0x100);
        Due.is("two sets: out", x.sure(0, 0xf00, 2, 3, false), 0x800);
        Due.is("one set: in", x.sure(0, 0xf00, 2, 4, true), 0x600);
        Due.is("one set: out", x.sure(0, 0xf00, 2, 4, false), 0x900);
        Due.is("nothing: in", x.sure(0, 0xf00, 0, 0, true), 0);
        Due.is("nothing: out", x.sure(0, 0xf00, 0, 0, false), 0xf00);
        Due.is("all: in", x.sure(0, 0xf00, 4, 14, true), 0xf00);
        Due.is("all: out", x.sure(0, 0xf00, 4, 14, false), 0);
        Due.is("of a lesser set: out", x.sure(0, 0x700, 2, 3, false), 0);
        Due.is("of no set: out", x.sure(0, 0, 0, 0, false), 0);
        LargerWithin many = Due.with(WIDE + Due.times(SMALL, 12));
        Due.is("924 sets: in", many.sure(0, 0xfff00, 6, 6, true), 0);
        Due.is("924 sets: out", many.sure(0, 0xfff00, 6, 6, false), 0);
    }

    // "NONE: no more than one set", "of like ones the least"
    private static void lookOrNone() {
        LargerWithin x = Due.with(WIDE + Due.thing(1, 1, 9, 1) + Due.times(SMALL, 3) + Due.thing(1, 1, 2, 1));
        Due.is("no set", x.look(0, 0x1f00, 1, 3), -1);
        Due.is("one set", x.look(0, 0x1f00, 1, 9), -1);
        Due.is("two sets: the least of both", x.look(0, 0x700, 1, 1), 9);
        Due.is("one of three: the least", x.look(0, 0xe00, 1, 1), 9);
        Due.is("9 is in none, 8 in all", x.look(0, 0xd00, 2, 10), 10);
        // two of WEIGHT 3: {9,12} {10,12} {11,12}: 12 tells nothing
        Due.is("each of three tells alike", x.look(0, 0x1e00, 2, 3), 9);
        Due.is("924 sets", Due.with(WIDE + Due.times(SMALL, 12)).look(0, 0xfff00, 6, 6), 8);
    }

    // "NONE: there is no such set; -4: there are more than 12 sets"
    private static void looksOfOneSet() {
        LargerWithin x = Due.with(WIDE + Due.times(SMALL, 14));
        Due.is("no set", x.looks(0, 0xf00, 1, 2), -1);
        Due.is("one set", x.looks(0, 0x100, 1, 1), 0);
        Due.is("nothing", x.looks(0, 0xf00, 0, 0), 0);
        for (int k = 2; k <= 12; k++) Due.is("one of " + k, x.looks(0, (1 << k) - 1 << 8, 1, 1), k - 1);
        for (int k = 2; k <= 12; k++) Due.is("all but one of " + k, x.looks(0, (1 << k) - 1 << 8, k - 1, k - 1), k - 1);
        Due.is("one of the first twelve", x.looks(0, 0x3fff00, 1, 1), 11);
    }

    private static void looksOfTwelveSets() {
        // two of WEIGHT 20: ten pairs of five times 10, and a 9 with each 11
        String five = WIDE + Due.times(Due.thing(1, 1, 10, 1), 5) + Due.thing(1, 1, 9, 1);
        LargerWithin x = Due.with(five + Due.times(Due.thing(1, 1, 11, 1), 3));
        Due.is("twelve sets", x.chest(0, 0xff00, 2, 20), 12);
        Due.is("looks for twelve sets", x.looks(0, 0xff00, 2, 20), fewestLooks(setsOf(new int[] {10, 10, 10, 10, 10, 9, 11, 11}, 2, 20)));
        Due.is("thirteen sets", x.chest(0, 0x1ff00, 2, 20), 13);
        Due.is("looks for thirteen sets", x.looks(0, 0x1ff00, 2, 20), -4);
        Due.is("a look for thirteen sets", x.look(0, 0x1ff00, 2, 20), 8);
        Due.is("sure of thirteen sets", x.sure(0, 0x1ff00, 2, 20, true), 0);
        Due.is("924 sets", Due.with(WIDE + Due.times(SMALL, 12)).looks(0, 0xfff00, 6, 6), -4);
        Due.is("BOX ahead of -4", x.looks(1, 0x1ff00, 2, 20), -2);
    }

    private static void looksOfAllKinds() {
        LargerWithin x = Due.with(WIDE + Due.thing(1, 1, 1, 1) + Due.thing(1, 1, 1, 1) + Due.thing(1, 1, 2, 1) + Due.thing(1, 1, 3, 1) + Due.thing(1, 1, 4, 1) + Due.thing(1, 1, 5, 1) + Due.thing(1, 1, 6, 1));
        for (int n = 1; n <= 5; n++) {
            for (int w = 3; w <= 14; w++) {
                List<Integer> sets = setsOf(new int[] {1, 1, 2, 3, 4, 5, 6}, n, w);
                int due = sets.isEmpty() ? -1 : sets.size() > 12 ? -4 : fewestLooks(sets);
                Due.is("looks for " + n + " of " + w, x.looks(0, 0x7f00, n, w), due);
            }
        }
    }

    /** The first, the last or one between is in half of four pairs of WEIGHT 20, all others in one. */
    private static void looksByOneOfMany() {
        int[] weights = {1, 19, 19, 3, 17, 6, 14};
        for (int turn = 0; turn < 7; turn++) {
            StringBuilder text = new StringBuilder(WIDE);
            for (int t = 0; t < 7; t++) text.append(Due.thing(1, 1, weights[(t + turn) % 7], 1));
            LargerWithin x = Due.with(text.toString());
            Due.is("four pairs " + turn, x.chest(0, 0x7f00, 2, 20), 4);
            Due.is("the one " + turn, x.look(0, 0x7f00, 2, 20), 8 + (7 - turn) % 7);
            Due.is("two looks " + turn, x.looks(0, 0x7f00, 2, 20), 2);
        }
    }

    /** All sets of n THINGS whose WEIGHTS together are w; every BOX here takes all. */
    private static List<Integer> setsOf(int[] weights, int n, int w) {
        List<Integer> sets = new ArrayList<>();
        int of = (1 << weights.length) - 1 << 8;
        for (int set = 0; set <= of; set += 256) {
            if ((set & ~of) != 0 || Integer.bitCount(set) != n) continue;
            int weight = 0;
            for (int i = 8; i < 24; i++) if ((set >> i & 1) != 0) weight += weights[i - 8];
            if (weight == w) sets.add(set);
        }
        return sets;
    }

    private static int fewestLooks(List<Integer> sets) {
        if (sets.size() <= 1) return 0;
        int fewest = 99;
        for (int i = 8; i < 24; i++) {
            List<Integer> with = new ArrayList<>();
            List<Integer> without = new ArrayList<>();
            for (int set : sets) ((set >> i & 1) != 0 ? with : without).add(set);
            if (!with.isEmpty() && !without.isEmpty()) fewest = Math.min(fewest, 1 + Math.max(fewestLooks(with), fewestLooks(without)));
        }
        return fewest;
    }

    // "-2: the BOX; -3: a set with others than THINGS, w, f below 0"
    private static void soundedBounds() {
        LargerWithin x = Due.with(WIDE + Due.times(SMALL, 2));
        Due.is("w -1", x.sounded(0, 0x300, -1, 1), -3);
        Due.is("f -1", x.sounded(0, 0x300, 1, -1), -3);
        Due.is("least", x.sounded(0, 0x300, MIN, MIN), -3);
        Due.is("w 0, f 0", x.sounded(0, 0x300, 0, 0), 1);
        Due.is("w 0, f 1", x.sounded(0, 0x300, 0, 1), 0);
        Due.is("w 1, f 0", x.sounded(0, 0x300, 1, 0), 0);
        Due.is("one of both", x.sounded(0, 0x300, 1, 1), 2);
        Due.is("both", x.sounded(0, 0x300, 2, 2), 1);
        Due.is("greatest", x.sounded(0, 0x300, MAX, MAX), 0);
        Due.is("no set", x.sounded(0, 0, 0, 0), 1);
    }

    private static void soundedJustFits() {
        LargerWithin x = Due.with(Due.box(5, 1, 3, 2, 1, 7) + Due.thing(4, 3, 3, 1) + Due.thing(6, 3, 4, 1) + Due.thing(7, 3, 4, 1) + Due.thing(1, 4, 1, 1) + Due.thing(6, 1, 5, 1));
        Due.is("as its ROOM, LID, as it BEARS", x.sounded(0, 0x1f00, 7, 10), 1);
        Due.is("above its ROOM", x.sounded(0, 0x1f00, 7, 11), 0);
        Due.is("above the LID", x.sounded(0, 0x1f00, 1, 1), 0);
        Due.is("above what it BEARS", x.sounded(0, 0x1f00, 8, 10), 0);
    }

    // "The least FACTOR (1 to 64) by which all that is IN a BOX fits as it is HALVED now."
    private static void needsLeastFactor() {
        StringBuilder text = new StringBuilder(Due.box(7, 1, 9, 64, 1, 9999) + Due.box(9, 1, 9, 64, 1, 9999));
        int[] sizes = {7, 1, 7, 433, 64, 448};
        for (int size : sizes) text.append(Due.thing(size, 1, 1, 1));
        LargerWithin x = Due.with(text.toString());
        Due.is("nothing IN it", x.needs(0), 1);
        x.put(8, 0);
        Due.is("7 of 7", x.needs(0), 1);
        x.put(9, 0);
        Due.is("8 of 7", x.needs(0), 2);
        x.put(0, 1);
        Due.is("8 of 7 HALVED: 7 * 2 by 2 is 7, 7 * 3 by 2 is 10", x.needs(0), 3);
        Due.is("7 HALVED in 9: 9 * 2 by 2", x.needs(1), 2);
        x.take(0);
        x.put(10, 0);
        Due.is("15 of 7", x.needs(0), 3);
        x.put(11, 0);
        Due.is("all 448", x.needs(0), 64);
        x.empty();
        x.put(13, 0);
        Due.is("448 at once", x.needs(0), 64);
        x.take(13);
        x.put(11, 0);
        Due.is("433 of 434", x.needs(0), 62);
        Due.is("nothing is HALVED to nothing", Due.with(Due.box(1, 1, 1, 1, 1, 1)).needs(0), 1);
        for (int b : new int[] {-1, 2, 7, 8, 32, MIN, MAX}) Due.is("BOX " + b, x.needs(b), -2);
        LargerWithin half = Due.with(Due.box(1, 1, 1, 64, 1, 99) + WIDE + Due.thing(32, 1, 1, 1));
        half.put(8, 0);
        Due.is("32 by a half of 64: it goes into another", half.put(0, 1), 1);
        Due.is("then all of its FACTOR is needed", half.needs(0), 64);
    }

    // "ROOM of a SIZE (1 to 99) by a FACTOR (1 to 64), HALVED so often (0 to 9). -3."
    private static void roomBounds() {
        LargerWithin x = new LargerWithin();
        for (int size : new int[] {0, -1, 100, MIN, MAX}) Due.is("SIZE " + size, x.room(size, 1, 0), -3);
        for (int factor : new int[] {0, -1, 65, MIN, MAX}) Due.is("FACTOR " + factor, x.room(1, factor, 0), -3);
        for (int halved : new int[] {-1, 10, 32, MIN, MAX}) Due.is("HALVED " + halved, x.room(1, 1, halved), -3);
        Due.is("least", x.room(1, 1, 0), 1);
        Due.is("greatest", x.room(99, 64, 0), 6336);
        Due.is("HALVED 9", x.room(99, 64, 9), 12);
        Due.is("511 by 512", x.room(73, 7, 9), 0);
        Due.is("512 by 512", x.room(64, 8, 9), 1);
        Due.is("1 by 2", x.room(1, 1, 1), 0);
        Due.is("2 by 2", x.room(2, 1, 1), 1);
    }

    private static void roomOfAll() {
        LargerWithin x = new LargerWithin();
        int calls = 0;
        for (int size = 1; size <= 99; size += 7) {
            for (int factor = 1; factor <= 64; factor += 9) {
                for (int halved = 0; halved <= 9; halved += 3) {
                    if (++calls % 500 == 0) x = new LargerWithin();
                    Due.is("ROOM " + size + " " + factor + " " + halved, x.room(size, factor, halved), size * factor / (1 << halved));
                }
            }
        }
    }

    // "How often a BOX could be HALVED at the most .. (0 to 9)"
    private static void deepestBounds() {
        StringBuilder text = new StringBuilder(Due.box(64, 1, 9, 64, 1, 9999) + Due.box(1, 1, 9, 1, 1, 99) + WIDE);
        int[] sizes = {8, 1, 7, 16, 992};
        for (int size : sizes) text.append(Due.thing(size, 1, 1, 1));
        LargerWithin x = Due.with(text.toString());
        Due.is("nothing IN it", x.deepest(0), 9);
        Due.is("nothing IN the least", x.deepest(1), 9);
        x.put(8, 0);
        Due.is("8 of 4096: 512 times", x.deepest(0), 9);
        x.put(9, 0);
        Due.is("9 of 4096", x.deepest(0), 8);
        x.put(10, 0);
        Due.is("16 of 4096", x.deepest(0), 8);
        x.put(11, 0);
        Due.is("32 of 4096", x.deepest(0), 7);
        x.put(12, 0);
        Due.is("1024 of 4096", x.deepest(0), 2);
        x.put(2, 0);
        Due.is("1033 of 4096", x.deepest(0), 1);
        x.empty();
        x.put(9, 1);
        Due.is("1 of 1", x.deepest(1), 0);
        x.empty();
        x.put(8, 0);
        x.put(0, 2);
        Due.is("as it is IN another", x.deepest(0), 9);
        for (int b : new int[] {-1, 3, 7, 8, 32, MIN, MAX}) Due.is("BOX " + b, x.deepest(b), -2);
    }

    // "-5: no ITEMS; -3: how many times", "so many times (1 to 60)"
    private static void carriersBounds() {
        LargerWithin none = new LargerWithin();
        for (int times : new int[] {-1, 0, 1, 60, 61, MIN, MAX}) Due.is("no ITEMS, " + times, none.carriers(5, times), -5);
        LargerWithin x = Due.with(WIDE + Due.times(SMALL, 3));
        for (int times : new int[] {-1, 0, 61, 100, MIN, MAX}) {
            Due.is("times " + times, x.carriers(5, times), -3);
            Due.is("nothing is moved", x.count(3), 0);
        }
        Due.isTrue("once", x.carriers(5, 1) >= 0);
        Due.isTrue("sixty times", x.carriers(5, 60) >= 0);
    }

    // "DRAW modulo BOXES (if there are any)"
    private static void carriersWithoutBoxes() {
        LargerWithin things = Due.with(Due.times(SMALL, 16));
        for (int seed : new int[] {0, 1, -1, MIN, MAX}) Due.is("THINGS alone, " + seed, things.carriers(seed, 60), 0);
        LargerWithin boxes = Due.with(Due.times(Due.box(9, 9, 8, 9, 9, 9), 8));
        for (int seed : new int[] {0, 1, -1, MIN, MAX}) Due.is("BOXES alone that don't pass, " + seed, boxes.carriers(seed, 60), 0);
        LargerWithin one = Due.with(SMALL);
        Due.is("one THING", one.carriers(77, 60), 0);
    }

    // "x becomes 1103515245 x + 12345, it is x >>> 16", by whole numbers modulo 2 to the power of 32
    private static void carriersByDraws() {
        String[] texts = {
            Due.times(Due.box(3, 2, 3, 9, 2, 20), 4) + Due.times(Due.thing(4, 2, 3, 1), 7),
            Due.times(WIDE, 8) + Due.times(SMALL, 16),
            Due.box(9, 9, 9, 9, 9, 9) + SMALL,
            WIDE,
            Due.times(WIDE, 3),
        };
        for (String text : texts) {
            for (int seed : new int[] {0, 1, -1, 12345, MIN, MAX, 0x7fff0000, 987654321}) {
                for (int times : new int[] {1, 2, 59, 60}) drawn(text, seed, times);
            }
        }
    }

    private static void drawn(String text, int seed, int times) {
        LargerWithin x = Due.with(text);
        LargerWithin y = Due.with(text);
        int boxes = y.count(0);
        int items = y.count(2);
        long wide = seed & 0xffffffffL;
        int moved = 0;
        for (int t = 0; t < times; t++) {
            wide = (wide * 1103515245L + 12345L) & 0xffffffffL;
            int place = (int) ((wide >> 16) % items);
            int i = place < boxes ? place : 8 + place - boxes;
            if (y.lies(i, 0) != -1) {
                if (y.take(i) >= 0) moved++;
            } else {
                wide = (wide * 1103515245L + 12345L) & 0xffffffffL;
                if (y.put(i, (int) ((wide >> 16) % boxes)) > 0) moved++;
            }
        }
        String name = "seed " + seed + ", " + times + " times, " + items + " ITEMS";
        Due.is("moved by " + name, x.carriers(seed, times), moved);
        for (int i = 0; i < 24; i++) {
            Due.is("where " + i + " is by " + name, x.lies(i, 0), y.lies(i, 0));
            Due.is("over " + i + " by " + name, x.lies(i, 1), y.lies(i, 1));
        }
    }
}
