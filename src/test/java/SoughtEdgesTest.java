/** The edges that the document names for what is sought: MOST to BEST VOYAGE: promises 18 to 27. */
public final class SoughtEdgesTest {
    private static final int MIN = Integer.MIN_VALUE;
    private static final int MAX = Integer.MAX_VALUE;
    private static final String WIDE = Due.box(1, 1, 9, 64, 1, 999);
    private static final String SMALL = Due.thing(1, 1, 1, 1);
    private static final String FULL = Due.times(WIDE, 8) + Due.times(SMALL, 16);
    private static final int THINGS = 0xffff00;

    public static void main(String[] args) {
        emptyStore();
        whichSets();
        mostOfTen();
        mostJustFits();
        mostWhereItLies();
        mostOfLikeOnes();
        mostRefused();
        householdOfTen();
        householdJustFits();
        householdOfLikeOnes();
        householdOfParts();
        householdRefused();
        householdOfEightBoxes();
        holdsGreatestSets();
        holdsAfterAnother();
        holdsRefused();
        shutOfSix();
        shutJustFits();
        shutLoads();
        shutRefused();
        shutInFirstWay();
        evenOfTen();
        evenJustFits();
        evenRefused();
        lightestJustFits();
        nestWhich();
        nestJustFits();
        nestOfEight();
        nestOfAnotherStore();
        nestByAllRows();
        voyageRows();
        voyageLiftings();
        voyagesOfFive();
        voyagesWhat();
        voyagesByAllOrders();
        Due.end("SoughtEdgesTest");
    }

    private static void emptyStore() {
        LargerWithin x = new LargerWithin();
        Due.is("empty: most", x.most(0, 0, 0), -2);
        for (int what = 0; what < 3; what++) {
            Due.is("empty: household " + what, x.household(0, false, what), 0);
            Due.is("empty: lightest " + what, x.household(0, true, what), 0);
        }
        Due.is("empty: household of a THING", x.household(256, true, 0), -3);
        Due.is("empty: household of a BOX", x.household(1, true, 0), -3);
        Due.is("empty: holds", x.holds(0, true, 8), -2);
        Due.is("empty: holds what is none", x.holds(256, true, 8), -2);
        Due.is("empty: shut", x.shut(0, 0), -2);
        Due.is("empty: shutIn", x.shutIn(0, 0, 0), -2);
        Due.is("empty: even", x.even(0, 1, 0, 0), -2);
        Due.is("empty: lightestFor a BOX", x.lightestFor(0), -2);
        Due.is("empty: lightestFor a THING", x.lightestFor(8), -2);
        Due.is("empty: nest", x.nest(-1), 0);
        Due.is("empty: nest's first", x.nest(0), -1);
        Due.is("empty: voyage", x.voyage(0), -6);
        x.numbers(0, 0, 0);
        Due.is("empty: voyage of none", x.voyage(0), 0);
        Due.is("empty: voyages of none", x.voyages(0, 0), 0);
        Due.is("empty: voyages, first of none", x.voyages(0, 10), -1);
        x.numbers(0, 0, 1);
        Due.is("empty: voyage for what is none", x.voyage(0), -3);
        Due.is("empty: voyages for what is none", x.voyages(0, 0), -3);
    }

    // "-3: a set with others than ITEMS", "with others than THINGS"
    private static void whichSets() {
        LargerWithin x = Due.with(Due.times(WIDE, 3) + Due.times(SMALL, 2));
        for (int bit = 0; bit < 32; bit++) {
            int set = 1 << bit;
            boolean isBox = bit < 3;
            boolean isThing = bit == 8 || bit == 9;
            Due.is("most of " + bit, x.most(0, set, 1), isThing ? set : isBox ? 0 : -3);
            Due.is("household of " + bit, x.household(set, false, 0), isThing ? 1 : -3);
            Due.is("even of " + bit, x.even(0, 1, set, 0), isThing ? 1 : -3);
            Due.is("shut of " + bit, x.shut(0, set), isThing || isBox && bit != 0 ? 1 : -3);
            Due.is("holds of " + bit, x.holds(set, true, bit), isThing ? 0 : isBox ? -3 : -2);
            Due.is("shutIn of " + bit, x.shutIn(0, set, bit), isThing || isBox && bit != 0 ? 0 : bit == 0 ? -3 : -2);
        }
        x = Due.with(FULL);
        for (int bit = 24; bit < 32; bit++) {
            int set = 256 | 1 << bit;
            Due.is("full: most of " + bit, x.most(0, set, 0), -3);
            Due.is("full: household of " + bit, x.household(set, false, 0), -3);
            Due.is("full: even of " + bit, x.even(0, 1, set, 0), -3);
            Due.is("full: shut of " + bit, x.shut(0, set), -3);
            Due.is("full: holds of " + bit, x.holds(set, false, 8), -3);
            Due.is("full: holds " + bit, x.holds(set, false, bit), -2);
            Due.is("full: shutIn of " + bit, x.shutIn(0, set, 8), -3);
            Due.is("full: shutIn " + bit, x.shutIn(0, set, bit), -2);
        }
        Due.is("full: most of all", x.most(0, 0xffffff, 0), 10);
        Due.is("full: most of all and more", x.most(0, -1, 0), -3);
    }

    // "(at most the first 10 of them)"
    private static void mostOfTen() {
        StringBuilder text = new StringBuilder(Due.box(9, 1, 9, 64, 1, 999));
        for (int t = 0; t < 16; t++) text.append(Due.thing(1, 1, 1, t + 1));
        LargerWithin x = Due.with(text.toString());
        Due.is("nine", x.most(0, 0x1ff00, 1), 0x1ff00);
        Due.is("ten", x.most(0, 0x3ff00, 1), 0x3ff00);
        Due.is("ten of eleven", x.most(0, 0x7ff00, 1), 0x3ff00);
        Due.is("ten of sixteen", x.most(0, THINGS, 1), 0x3ff00);
        Due.is("their worth", x.most(0, THINGS, 0), 55);
        Due.is("the last ten", x.most(0, 0xffc000, 1), 0xffc000);
        Due.is("the worth of the last ten", x.most(0, 0xffc000, 0), 7 + 8 + 9 + 10 + 11 + 12 + 13 + 14 + 15 + 16);
        Due.is("BOXES don't count among the ten", x.most(0, 0x3ff01, 1), 0x3ff00);
        x.put(8, 0);
        x.put(9, 0);
        Due.is("those on THE FLOOR count", x.most(0, THINGS, 1), 0xffc00);
        Due.is("none on THE FLOOR", x.most(0, 0x300, 1), 0);
    }

    // "that could all be PUT one behind the other"
    private static void mostJustFits() {
        LargerWithin x = Due.with(Due.box(5, 9, 3, 2, 1, 7) + Due.thing(4, 3, 3, 1) + Due.thing(6, 3, 4, 2) + Due.thing(7, 3, 4, 4) + Due.thing(1, 4, 1, 8) + Due.thing(4, 1, 4, 8) + Due.thing(1, 1, 8, 16) + Due.thing(11, 1, 1, 32));
        Due.is("as its ROOM, as it BEARS, as the LID", x.most(0, 0x300, 1), 0x300);
        Due.is("above its ROOM", x.most(0, 0x500, 1), 0x400);
        Due.is("above the LID", x.most(0, 0x800, 1), 0);
        Due.is("above what it BEARS together", x.most(0, 0x1200, 1), 0x1000);
        Due.is("above what it BEARS", x.most(0, 0x2000, 1), 0);
        Due.is("above its ROOM alone", x.most(0, 0x4000, 0), 0);
        Due.is("of all of them", x.most(0, 0x7f00, 1), 0x1100);
        Due.is("its worth", x.most(0, 0x7f00, 0), 9);
    }

    // "(whether the BOX is AT HAND or not)"
    private static void mostWhereItLies() {
        LargerWithin x = Due.with(Due.box(2, 1, 9, 5, 1, 20) + Due.box(9, 1, 9, 9, 1, 6) + Due.thing(1, 1, 1, 5) + Due.thing(5, 1, 4, 3) + Due.thing(1, 1, 3, 2) + Due.thing(1, 1, 1, 1) + Due.thing(6, 1, 1, 50));
        Due.is("on THE FLOOR: ROOM 10", x.most(0, 0x1f00, 1), 0x1d00);
        x.put(0, 1);
        Due.is("IN another: ROOM 5, that one BEARS 5", x.most(0, 0xf00, 1), 0xd00);
        Due.is("6 is above it", x.most(0, 0x1000, 0), 0);
        x.put(8, 1);
        Due.is("not AT HAND, 4 left to BEAR", x.most(0, 0xe00, 1), 0x200);
        Due.is("but none can be PUT", x.may(9, 0), -5);
        Due.is("beside what is IN it", x.most(1, 0xe00, 1), 0x200);
        x.take(8);
        x.put(8, 0);
        Due.is("4 left of its ROOM", x.most(0, 0xe00, 1), 0xc00);
    }

    // "that with the greatest worth together, of like ones the least as bits"
    private static void mostOfLikeOnes() {
        LargerWithin x = Due.with(Due.box(2, 1, 9, 1, 1, 9) + Due.times(SMALL, 4) + Due.thing(1, 1, 1, 0));
        Due.is("the least two", x.most(0, 0xf00, 1), 0x300);
        Due.is("without the least", x.most(0, 0xe00, 1), 0x600);
        Due.is("worth nothing: not taken", x.most(0, 0x1000, 1), 0);
        Due.is("worth nothing beside one", x.most(0, 0x1100, 1), 0x100);
        LargerWithin y = Due.with(Due.box(3, 1, 9, 1, 1, 9) + Due.thing(1, 1, 1, 2) + Due.thing(1, 1, 1, 3) + Due.thing(3, 1, 1, 5) + Due.thing(3, 1, 1, 6));
        Due.is("two of 5 against one of 5: the least as bits", y.most(0, 0x700, 1), 0x300);
        Due.is("the greater worth ahead of it", y.most(0, 0xf00, 1), 0x800);
    }

    private static void mostRefused() {
        LargerWithin x = Due.with(WIDE + SMALL);
        for (int b : new int[] {-1, 1, 7, 8, 32, MIN, MAX}) Due.is("BOX " + b, x.most(b, -1, 0), -2);
        for (int what : new int[] {-1, 2, MIN, MAX}) Due.is("what " + what, x.most(0, -1, what), -2);
        Due.is("set", x.most(0, 2, 1), -3);
        Due.is("no set", x.most(0, 0, 1), 0);
        Due.is("no worth", x.most(0, 0, 0), 0);
    }

    // "HOUSEHOLD for a set of THINGS (at most 10, wherever they lie)", "more than 10"
    private static void householdOfTen() {
        LargerWithin x = Due.with(FULL);
        for (boolean lightest : new boolean[] {false, true}) {
            Due.is("none", x.household(0, lightest, 0), 0);
            Due.is("none, WEIGHT", x.household(0, lightest, 1), 0);
            Due.is("none, set", x.household(0, lightest, 2), 0);
            Due.is("ten", x.household(0x3ff00, lightest, 0), 1);
            Due.is("the last ten", x.household(0xffc000, lightest, 2), 1);
            Due.is("eleven", x.household(0x7ff00, lightest, 0), -3);
            Due.is("sixteen", x.household(THINGS, lightest, 0), -3);
        }
        for (int t = 8; t < 18; t++) x.put(t, 3);
        Due.is("wherever they lie", x.household(0x3ff00, false, 2), 1);
        x.put(0, 1);
        Due.is("BOXES as if on THE FLOOR", x.household(0x3ff00, false, 2), 1);
    }

    private static void householdJustFits() {
        LargerWithin x = Due.with(Due.box(5, 1, 3, 2, 1, 7) + Due.thing(4, 3, 3, 1) + Due.thing(6, 3, 4, 1) + Due.thing(7, 3, 4, 1) + Due.thing(1, 4, 1, 1) + Due.thing(6, 1, 5, 1));
        Due.is("as its ROOM, as it BEARS, as the LID", x.household(0x300, false, 0), 1);
        Due.is("above its ROOM", x.household(0x500, false, 0), -1);
        Due.is("above the LID", x.household(0x800, true, 0), -1);
        Due.is("above what it BEARS", x.household(0x1100, true, 2), -1);
        Due.is("there is none, WEIGHT", x.household(0x500, true, 1), -1);
        LargerWithin things = Due.with(SMALL);
        Due.is("no BOXES", things.household(256, false, 0), -1);
        Due.is("no BOXES, nothing", things.household(0, false, 0), 0);
    }

    // "the fewest BOXES, of like ones the least WEIGHT together, of like ones the least set"
    private static void householdOfLikeOnes() {
        // 0 and 1 hold one each, 2 and 3 hold two each, 4 holds three
        LargerWithin x = Due.with(Due.box(1, 1, 1, 1, 2, 9) + Due.box(1, 1, 1, 1, 2, 9) + Due.box(1, 1, 1, 2, 5, 9) + Due.box(1, 1, 1, 2, 4, 9) + Due.box(1, 1, 1, 3, 6, 9) + Due.times(SMALL, 6));
        Due.is("one: the lightest, the least", x.household(0x100, false, 2), 1);
        Due.is("two: the fewest, the lightest", x.household(0x300, false, 2), 8);
        Due.is("two: LIGHTEST, the fewest", x.household(0x300, true, 2), 8);
        Due.is("three: the fewest", x.household(0x700, false, 2), 16);
        Due.is("three: LIGHTEST: 6 by one or by two", x.household(0x700, true, 2), 16);
        Due.is("four: two of 10 or 9 or 8 ..", x.household(0xf00, false, 2), 1 | 16);
        Due.is("four: their WEIGHT", x.household(0xf00, false, 1), 8);
        Due.is("four: LIGHTEST", x.household(0xf00, true, 1), 8);
        Due.is("four: LIGHTEST, the fewest", x.household(0xf00, true, 0), 2);
        Due.is("five", x.household(0x1f00, false, 2), 8 | 16);
        Due.is("five: LIGHTEST", x.household(0x1f00, true, 1), 10);
        Due.is("five: LIGHTEST, the fewest of 10", x.household(0x1f00, true, 2), 8 | 16);
        Due.is("six", x.household(0x3f00, false, 0), 3);
        Due.is("six: the least WEIGHT", x.household(0x3f00, false, 1), 12);
        Due.is("six: the least set", x.household(0x3f00, false, 2), 1 | 8 | 16);
        LargerWithin y = Due.with(Due.times(Due.box(1, 1, 1, 2, 3, 9), 3) + Due.box(1, 1, 1, 4, 6, 9) + Due.box(1, 1, 1, 4, 7, 9) + Due.times(SMALL, 4));
        Due.is("LIGHTEST: one of 6 ahead of two of 3", y.household(0xf00, true, 2), 8);
        Due.is("the fewest: the lighter one", y.household(0xf00, false, 2), 8);
        LargerWithin z = Due.with(Due.box(1, 1, 1, 4, 7, 9) + Due.times(Due.box(1, 1, 1, 2, 3, 9), 3) + Due.times(SMALL, 4));
        Due.is("LIGHTEST: two of 3 ahead of one of 7", z.household(0xf00, true, 2), 6);
        Due.is("the fewest: one of 7", z.household(0xf00, false, 2), 1);
    }

    /** Each part of three THINGS is the one that a BOX must take. */
    private static void householdOfParts() {
        for (int part = 1; part < 7; part++) {
            StringBuilder things = new StringBuilder();
            for (int t = 0; t < 3; t++) things.append((part >> t & 1) != 0 ? Due.thing(1, 5, 1, 1) : Due.thing(9, 1, 1, 1));
            // 0 takes what is wide, 1 what is large
            String wide = Due.box(Integer.bitCount(part), 1, 5, 1, 1, 99);
            String large = Due.box(9 * (3 - Integer.bitCount(part)), 1, 1, 1, 1, 99);
            for (boolean lightest : new boolean[] {false, true}) {
                LargerWithin x = Due.with(wide + large + things);
                Due.is("part " + part, x.household(0x700, lightest, 2), 3);
                LargerWithin y = Due.with(large + wide + things);
                Due.is("part " + part + " for the other", y.household(0x700, lightest, 2), 3);
                for (int t = 0; t < 3; t++) {
                    boolean isWide = (part >> t & 1) != 0;
                    Due.is("where " + t + " of part " + part + " is", x.holds(0x700, lightest, 8 + t), isWide ? 0 : 1);
                    Due.is("where " + t + " of part " + part + " is, the other way", y.holds(0x700, lightest, 8 + t), isWide ? 1 : 0);
                }
            }
        }
    }

    // "-2: what; -3: ..", in that order
    private static void householdRefused() {
        LargerWithin x = Due.with(FULL);
        for (int what : new int[] {-1, 3, 4, MIN, MAX}) {
            Due.is("what " + what, x.household(256, false, what), -2);
            Due.is("what " + what + " ahead of the set", x.household(-1, true, what), -2);
        }
        Due.is("set", x.household(-1, true, 2), -3);
        Due.is("a BOX", x.household(255, false, 0), -3);
    }

    private static void householdOfEightBoxes() {
        LargerWithin x = Due.with(Due.times(Due.box(1, 1, 1, 1, 99, 9), 8) + Due.times(SMALL, 9));
        Due.is("eight THINGS, eight BOXES", x.household(0xff00, false, 0), 8);
        Due.is("their WEIGHT", x.household(0xff00, true, 1), 792);
        Due.is("their set", x.household(0xff00, false, 2), 255);
        Due.is("nine THINGS", x.household(0x1ff00, false, 0), -1);
        Due.is("nine THINGS, LIGHTEST", x.household(0x1ff00, true, 2), -1);
        for (int t = 0; t < 8; t++) Due.is("the greatest set first " + t, x.holds(0xff00, true, 8 + t), 7 - t);
    }

    // "if each BOX by numbers takes the greatest set (as bits) with which the others can take the rest"
    private static void holdsGreatestSets() {
        LargerWithin x = Due.with(Due.box(2, 1, 1, 1, 1, 9) + Due.box(2, 1, 1, 1, 1, 9) + Due.box(9, 9, 9, 9, 9, 9) + Due.times(SMALL, 4) + Due.thing(2, 1, 1, 1));
        int[] four = {1, 1, 0, 0};
        for (int t = 0; t < 4; t++) Due.is("two and two: " + t, x.holds(0xf00, true, 8 + t), four[t]);
        for (int t = 0; t < 4; t++) Due.is("the fewest: " + t, x.holds(0xf00, false, 8 + t), 2);
        Due.is("one and two: the greater", x.holds(0x1300, true, 12), 0);
        Due.is("one and two: the lesser", x.holds(0x1300, true, 8), 1);
        int[] three = {1, 0, 0};
        for (int t = 0; t < 3; t++) Due.is("three: " + t, x.holds(0x700, true, 8 + t), three[t]);
        // only 0 takes what is wide: the greatest set for it must leave a rest that 1 can take
        LargerWithin y = Due.with(Due.box(3, 1, 9, 1, 1, 9) + Due.box(2, 1, 1, 1, 1, 9) + Due.thing(2, 9, 1, 1) + Due.times(SMALL, 3));
        int[] rest = {0, 1, 1, 0};
        for (int t = 0; t < 4; t++) Due.is("wide: " + t, y.holds(0xf00, false, 8 + t), rest[t]);
    }

    private static void holdsAfterAnother() {
        // 8 is wide: only 0 takes it; 9 and 10 go anywhere, one at a time
        LargerWithin x = Due.with(Due.box(1, 1, 5, 1, 1, 9) + Due.box(1, 1, 1, 1, 1, 9) + Due.thing(1, 5, 1, 1) + Due.times(SMALL, 2));
        Due.is("the wide one", x.holds(0x500, false, 8), 0);
        Due.is("the other", x.holds(0x500, false, 10), 1);
        Due.is("two that go anywhere: the greater first", x.holds(0x600, false, 10), 0);
        Due.is("then the lesser", x.holds(0x600, false, 9), 1);
        Due.is("the wide one again", x.holds(0x300, true, 8), 0);
        Due.is("the other again", x.holds(0x300, true, 9), 1);
        Due.is("too many", x.holds(0x700, true, 9), -1);
    }

    // "NONE: there is none; -2: no ITEM of the set; -3: likewise"
    private static void holdsRefused() {
        LargerWithin x = Due.with(FULL);
        for (int i : new int[] {-1, 0, 7, 9, 23, 24, 32, 40, MIN, MAX}) Due.is("not of the set " + i, x.holds(256, false, i), -2);
        Due.is("of no set", x.holds(0, false, 8), -2);
        Due.is("-2 ahead of -3", x.holds(0x7ff00, false, 23), -2);
        Due.is("eleven", x.holds(0x7ff00, false, 8), -3);
        Due.is("ten", x.holds(0x3ff00, false, 17), 0);
        Due.is("a BOX", x.holds(0x101, false, 0), -3);
        Due.is("beside a BOX", x.holds(0x101, false, 8), -3);
        Due.is("all bits", x.holds(-1, false, 8), -3);
        LargerWithin none = Due.with(Due.box(1, 1, 1, 1, 1, 9) + Due.thing(2, 1, 1, 1) + SMALL);
        Due.is("there is none", none.holds(0x100, false, 8), -1);
        Due.is("there is none with another", none.holds(0x300, true, 9), -1);
    }

    // "ITEMS of a set (at most 6)", "more than 6, that BOX"
    private static void shutOfSix() {
        LargerWithin x = Due.with(FULL);
        Due.is("none: one way", x.shut(0, 0), 1);
        Due.is("six THINGS", x.shut(0, 0x3f00), 1);
        Due.is("seven THINGS", x.shut(0, 0x7f00), -3);
        // of 6 times 1296: five IN one (6) and four IN one IN it (5 times 6) are too much, four and the THING (5 times 4), too
        Due.is("five BOXES and a THING", x.shut(7, 0x11f), 6 * 1296 - 6 - 30 - 20);
        Due.is("seven BOXES", x.shut(7, 0x7f), -3);
        Due.is("the last six", x.shut(7, 0xfc0000), 1);
        Due.is("all ITEMS", x.shut(0, 0xfffffe), -3);
        Due.is("one BOX and two THINGS", x.shut(1, 0x301), 4);
    }

    private static void shutJustFits() {
        // ROOM of 1, HALVED once, is 6: 8 and 9 go in; of 0, HALVED once, 15: 1 of 13, and 2
        LargerWithin x = Due.with(Due.box(15, 1, 9, 2, 1, 12) + Due.box(13, 2, 9, 1, 2, 9) + Due.thing(2, 1, 5, 1) + Due.thing(4, 1, 4, 1) + Due.thing(3, 9, 1, 1) + Due.thing(3, 10, 1, 1) + Due.thing(2, 1, 6, 1) + Due.thing(2, 1, 7, 1));
        Due.is("8 IN either", x.shut(0, 0x102), 2);
        Due.is("9 not beside it", x.shut(0, 0x202), 1);
        Due.is("10 not beside it, but IN it", x.shut(0, 0x402), 1);
        Due.is("8 IN either, 9 IN it", x.shut(0, 0x302), 2);
        Due.is("8 beside it first", x.shutIn(0, 0x302, 8), 0);
        Due.is("9 IN it", x.shutIn(0, 0x302, 9), 1);
        Due.is("12 and 9 too heavy for it, just what the one around BEARS", x.shut(0, 0x1202), 1);
        Due.is("13 and 9 too heavy for the one around", x.shut(0, 0x2202), 0);
        Due.is("as the LID", x.shut(0, 0x400), 1);
        Due.is("above the LID", x.shut(0, 0x800), 0);
        LargerWithin y = Due.with(Due.box(15, 1, 9, 2, 1, 10) + Due.box(13, 2, 9, 1, 2, 9) + Due.thing(2, 1, 5, 1) + Due.thing(4, 1, 4, 1) + Due.thing(2, 1, 8, 1));
        Due.is("too heavy for the one around: 11 of 10", y.shut(0, 0x302), 0);
        Due.is("as it BEARS: 10 of 10", y.shut(0, 0x402), 2);
    }

    /** The LOAD of each BOX has all that is IN it, and IN these, in whichever order they are numbered. */
    private static void shutLoads() {
        String[] inner = {Due.box(1, 1, 1, 64, 3, 6), Due.box(1, 2, 2, 64, 4, 9), Due.thing(1, 1, 6, 1)};
        // the one of LID 1 goes IN the one of LID 2 or beside it, the THING anywhere: 13 for the outermost always
        for (int bears = 12; bears <= 14; bears++) {
            String outer = Due.box(1, 3, 3, 64, 1, bears);
            LargerWithin x = Due.with(inner[0] + inner[1] + outer + inner[2]);
            int ways = bears < 13 ? 0 : 6;
            Due.is("outermost last, bears " + bears, x.shut(2, 0x103), ways);
            LargerWithin y = Due.with(outer + inner[1] + inner[0] + inner[2]);
            Due.is("outermost first, bears " + bears, y.shut(0, 0x106), ways);
        }
        LargerWithin x = Due.with(Due.box(1, 1, 1, 64, 3, 6) + Due.box(1, 2, 2, 64, 4, 8) + Due.box(1, 3, 3, 64, 1, 13) + Due.thing(1, 1, 6, 1));
        Due.is("the middle one bears 8: with 0 IN it the THING is in neither", x.shut(2, 0x103), 4);
        Due.is("the first way", x.shutIn(2, 0x103, 0) * 100 + x.shutIn(2, 0x103, 1) * 10 + x.shutIn(2, 0x103, 8), 122);
    }

    private static void shutRefused() {
        LargerWithin x = Due.with(Due.times(WIDE, 2) + SMALL);
        for (int b : new int[] {-1, 2, 7, 8, 32, MIN, MAX}) {
            Due.is("BOX " + b, x.shut(b, -1), -2);
            Due.is("shutIn BOX " + b, x.shutIn(b, -1, 8), -2);
        }
        Due.is("that BOX", x.shut(0, 1), -3);
        Due.is("that BOX beside another", x.shut(1, 3), -3);
        Due.is("no ITEM", x.shut(0, 4), -3);
        for (int i : new int[] {-1, 1, 2, 9, 23, 24, 32, 40, MIN, MAX}) Due.is("not of the set " + i, x.shutIn(0, 256, i), -2);
        Due.is("-2 ahead of -3", x.shutIn(0, -1, 9), -2);
        Due.is("that BOX is of the set", x.shutIn(0, 1, 0), -3);
        Due.is("others than ITEMS", x.shutIn(0, -2, 8), -3);
        Due.is("of no set", x.shutIn(0, 0, 8), -2);
        x.put(8, 1);
        Due.is("as if empty", x.shut(0, 258), 2);
        Due.is("it lies where it lay", x.lies(8, 0), 1);
    }

    // "they stand in order by ITEMS (the lesser BOX first)", "NONE: there is none"
    private static void shutInFirstWay() {
        LargerWithin x = Due.with(Due.times(WIDE, 4) + Due.times(SMALL, 2) + Due.thing(1, 99, 1, 1));
        Due.is("BOX 0 of 0, 1, 2 within 3", x.shutIn(3, 7, 0), 1);
        Due.is("BOX 1 then", x.shutIn(3, 7, 1), 2);
        Due.is("BOX 2 then", x.shutIn(3, 7, 2), 3);
        Due.is("within 0: BOX 1", x.shutIn(0, 14, 1), 0);
        Due.is("within 0: BOX 3", x.shutIn(0, 14, 3), 0);
        Due.is("a THING: the lesser BOX", x.shutIn(3, 0x101, 8), 0);
        Due.is("a THING alone", x.shutIn(3, 0x100, 8), 3);
        Due.is("there is none", x.shutIn(3, 0x501, 0), -1);
        Due.is("there is none for any", x.shutIn(3, 0x501, 10), -1);
        Due.is("no ways", x.shut(3, 0x501), 0);
        Due.is("six of FULL", Due.with(FULL).shutIn(0, 0x7e, 6), 1);
    }

    // "EVEN: THINGS of a set (at most 10)", "of like ones the least set for the first BOX"
    private static void evenOfTen() {
        LargerWithin x = Due.with(FULL);
        Due.is("none", x.even(0, 1, 0, 0), 0);
        Due.is("none, set", x.even(0, 1, 0, 1), 0);
        Due.is("one", x.even(0, 1, 0x100, 0), 1);
        Due.is("one: the least set", x.even(0, 1, 0x100, 1), 0);
        Due.is("two", x.even(7, 0, 0x300, 0), 0);
        Due.is("two: the least set", x.even(7, 0, 0x300, 1), 0x100);
        Due.is("ten", x.even(0, 1, 0x3ff00, 0), 0);
        Due.is("ten: the least set", x.even(0, 1, 0x3ff00, 1), 0x1f00);
        Due.is("eleven", x.even(0, 1, 0x7ff00, 0), -3);
        Due.is("the last ten", x.even(0, 1, 0xffc000, 1), 0x7c000);
        LargerWithin y = Due.with(Due.times(WIDE, 2) + Due.thing(1, 1, 1, 99) + Due.thing(1, 1, 1, 99) + Due.thing(1, 1, 1, 97) + Due.thing(1, 1, 1, 0));
        Due.is("99 against 97", y.even(0, 1, 0x500, 0), 2);
        Due.is("the lesser bits for the first", y.even(0, 1, 0x500, 1), 0x100);
        Due.is("three of them", y.even(0, 1, 0x700, 0), 97);
        Due.is("three of them: the least set", y.even(0, 1, 0x700, 1), 0x100);
        Due.is("worth nothing: not for the first", y.even(0, 1, 0xb00, 1), 0x100);
    }

    private static void evenJustFits() {
        LargerWithin x = Due.with(Due.box(5, 1, 3, 2, 1, 7) + Due.box(7, 1, 2, 1, 1, 9) + Due.thing(4, 3, 3, 1) + Due.thing(6, 3, 4, 1) + Due.thing(7, 2, 9, 9) + Due.thing(8, 2, 5, 1) + Due.thing(1, 1, 1, 1));
        Due.is("both are full", x.even(0, 1, 0x700, 0), 7);
        Due.is("what is wide into the first", x.even(0, 1, 0x700, 1), 0x300);
        Due.is("what is wide into the other", x.even(1, 0, 0x700, 1), 0x400);
        Due.is("one more", x.even(0, 1, 0x1700, 0), -1);
        Due.is("8 of 7", x.even(0, 1, 0xb00, 0), -1);
        x.put(9, 0);
        x.put(0, 1);
        Due.is("as if empty and on THE FLOOR", x.even(0, 1, 0x700, 1), 0x300);
    }

    // "-2: one of both, both one, what; -3: .."
    private static void evenRefused() {
        LargerWithin x = Due.with(Due.times(WIDE, 2) + SMALL);
        for (int b : new int[] {-1, 2, 7, 8, 32, MIN, MAX}) {
            Due.is("first " + b, x.even(b, 1, -1, 0), -2);
            Due.is("other " + b, x.even(0, b, -1, 0), -2);
            Due.is("both " + b, x.even(b, b, -1, 0), -2);
        }
        for (int b = 0; b < 2; b++) Due.is("both one " + b, x.even(b, b, 256, 0), -2);
        for (int what : new int[] {-1, 2, MIN, MAX}) Due.is("what " + what, x.even(0, 1, -1, what), -2);
        Due.is("set", x.even(0, 1, -1, 1), -3);
        Due.is("a BOX", x.even(0, 1, 1, 1), -3);
    }

    // "The lightest BOX, the first, into which an ITEM could be PUT alone .. (not itself)"
    private static void lightestJustFits() {
        LargerWithin x = Due.with(Due.box(5, 4, 3, 2, 2, 7) + Due.box(6, 3, 4, 2, 3, 8) + Due.box(1, 1, 9, 1, 3, 9)
            + Due.thing(10, 3, 7, 1) + Due.thing(11, 3, 7, 1) + Due.thing(10, 4, 7, 1) + Due.thing(10, 3, 8, 1) + Due.thing(13, 1, 1, 1) + Due.thing(1, 9, 9, 1) + Due.thing(1, 10, 1, 1) + Due.thing(1, 1, 10, 1) + Due.thing(1, 5, 9, 1));
        Due.is("as its ROOM, LID, as it BEARS", x.lightestFor(8), 0);
        Due.is("above its ROOM", x.lightestFor(9), 1);
        Due.is("above the LID", x.lightestFor(10), 1);
        Due.is("above what it BEARS", x.lightestFor(11), 1);
        Due.is("above all ROOMS", x.lightestFor(12), -1);
        Due.is("as the last LID, as the last BEARS", x.lightestFor(13), 2);
        Due.is("above all LIDS", x.lightestFor(14), -1);
        Due.is("above all BEARS", x.lightestFor(15), -1);
        Due.is("the second of two like ones can only", x.lightestFor(16), 2);
        // BOX 0 by 4 passes the LID of 1 alone: half of 12 is 6; BOX 1 of 6: half of 10 is 5; BOX 2 goes into 0
        Due.is("a BOX", x.lightestFor(0), 1);
        Due.is("a BOX above half of the ROOM", x.lightestFor(1), -1);
        Due.is("a BOX into the lightest", x.lightestFor(2), 0);
        x.put(8, 0);
        x.put(2, 1);
        Due.is("as if empty", x.lightestFor(8), 0);
        Due.is("as if on THE FLOOR", x.lightestFor(2), 0);
        for (int i : new int[] {-1, 3, 7, 17, 23, 24, 32, 40, MIN, MAX}) Due.is("no ITEM " + i, x.lightestFor(i), -2);
        LargerWithin like = Due.with(Due.times(WIDE, 3) + SMALL);
        Due.is("the first", like.lightestFor(8), 0);
        Due.is("not itself", like.lightestFor(0), 1);
        Due.is("the first, not itself", like.lightestFor(1), 0);
        Due.is("no other BOX", Due.with(WIDE).lightestFor(0), -1);
        Due.is("no BOX", Due.with(SMALL).lightestFor(8), -1);
    }

    // "k NONE: how many, else BOX k of it, the innermost first. NONE: not so many."
    private static void nestWhich() {
        LargerWithin x = Due.with(WIDE);
        Due.is("one", x.nest(-1), 1);
        Due.is("the one", x.nest(0), 0);
        for (int k : new int[] {1, 2, 7, 8, MAX}) Due.is("not so many " + k, x.nest(k), -1);
        LargerWithin things = Due.with(SMALL);
        Due.is("no BOXES", things.nest(-1), 0);
        Due.is("no first", things.nest(0), -1);
    }

    // "each PUT IN the next one, the innermost first (it must be so that each can be)"
    private static void nestJustFits() {
        LargerWithin lid = Due.with(Due.box(1, 5, 1, 64, 1, 99) + Due.box(1, 9, 5, 64, 1, 99));
        Due.is("as the LID", lid.nest(-1), 2);
        Due.is("above the LID", Due.with(Due.box(1, 6, 1, 64, 1, 99) + Due.box(1, 9, 5, 64, 1, 99)).nest(-1), 1);
        LargerWithin bears = Due.with(Due.box(1, 1, 1, 64, 5, 1) + Due.box(1, 1, 1, 64, 9, 5));
        Due.is("as it BEARS", bears.nest(-1), 2);
        Due.is("above what it BEARS", Due.with(Due.box(1, 1, 1, 64, 5, 1) + Due.box(1, 1, 1, 64, 9, 4)).nest(-1), 1);
        LargerWithin all = Due.with(Due.box(1, 1, 1, 64, 5, 1) + Due.box(1, 1, 1, 64, 9, 5) + Due.box(1, 1, 1, 64, 99, 14));
        Due.is("as the outermost BEARS", all.nest(-1), 3);
        Due.is("above what the outermost BEARS", Due.with(Due.box(1, 1, 1, 64, 5, 1) + Due.box(1, 1, 1, 64, 9, 5) + Due.box(1, 1, 1, 64, 99, 13)).nest(-1), 2);
        Due.is("as half of its ROOM", Due.with(Due.box(7, 1, 1, 1, 1, 99) + Due.box(15, 1, 1, 1, 1, 99)).nest(-1), 2);
        Due.is("above half of its ROOM", Due.with(Due.box(8, 1, 1, 1, 1, 99) + Due.box(15, 1, 1, 1, 1, 99)).nest(-1), 1);
        // 1 within 2 has a quarter of its ROOM: 27 * 1 by 4 is 6
        Due.is("as a quarter of its ROOM", Due.with(Due.box(6, 1, 1, 1, 1, 99) + Due.box(27, 1, 1, 1, 1, 99) + Due.box(60, 1, 1, 1, 1, 99)).nest(-1), 3);
        Due.is("above a quarter of its ROOM", Due.with(Due.box(7, 1, 1, 1, 1, 99) + Due.box(27, 1, 1, 1, 1, 99) + Due.box(60, 1, 1, 1, 1, 99)).nest(-1), 2);
    }

    // "of like ones the first row from the innermost on"
    private static void nestOfEight() {
        LargerWithin x = Due.with(FULL);
        Due.is("eight", x.nest(-1), 8);
        for (int k = 0; k < 8; k++) Due.is("the first row " + k, x.nest(k), k);
        Due.is("no ninth", x.nest(8), -1);
        x.put(7, 0);
        x.put(8, 0);
        Due.is("as if all were empty", x.nest(0), 0);
        Due.is("as if all were on THE FLOOR", x.nest(7), 7);
        LargerWithin two = Due.with(Due.box(9, 1, 9, 1, 1, 99) + Due.box(1, 9, 9, 1, 1, 99) + Due.box(2, 9, 9, 1, 1, 99) + Due.box(3, 9, 9, 1, 1, 99));
        Due.is("two", two.nest(-1), 2);
        Due.is("the innermost: 1, as 0 goes nowhere", two.nest(0), 1);
        Due.is("the first that takes it", two.nest(1), 0);
    }

    private static void nestOfAnotherStore() {
        LargerWithin x = Due.with(FULL);
        Due.is("eight", x.nest(-1), 8);
        Due.read(x, Due.box(9, 9, 1, 1, 1, 1) + Due.box(9, 9, 1, 1, 1, 1) + Due.box(9, 9, 1, 1, 1, 1));
        Due.is("none goes into another", x.nest(-1), 1);
        Due.is("the first", x.nest(0), 0);
        Due.is("no second", x.nest(1), -1);
        Due.read(x, Due.box(9, 9, 9, 9, 1, 99) + Due.box(1, 9, 1, 9, 1, 99));
        Due.is("two", x.nest(-1), 2);
        Due.is("the inner one", x.nest(0), 1);
        Due.is("the outer one", x.nest(1), 0);
        Due.read(x, Due.times(WIDE, 3));
        Due.is("three", x.nest(-1), 3);
        Due.read(x, Due.times(Due.box(4, 4, 4, 3, 1, 99), 3));
        Due.is("two, as the middle one would have a quarter", x.nest(-1), 2);
        Due.is("the first two", x.nest(0) * 10 + x.nest(1), 1);
        x.store(0);
        Due.is("none", x.nest(-1), 0);
        Due.is("no first any more", x.nest(0), -1);
    }

    /** All rows of four BOXES, tried by put(): the longest that can be, and the first of those. */
    private static void nestByAllRows() {
        java.util.Random random = new java.util.Random(4);
        for (int run = 0; run < 40; run++) {
            StringBuilder text = new StringBuilder();
            for (int b = 0; b < 4; b++) text.append(Due.box(1 + random.nextInt(8), 1 + random.nextInt(3), 1 + random.nextInt(4), 1 + random.nextInt(6), 1 + random.nextInt(4), 1 + random.nextInt(9)));
            int[] best = new int[0];
            for (int code = 0; code < 256; code++) {
                int[] row = new int[4];
                int length = 0;
                for (int k = 0; k < 4; k++) row[k] = code >> 6 - 2 * k & 3;
                LargerWithin x = Due.with(text.toString());
                do length++; while (length < 4 && x.put(row[length - 1], row[length]) > 0);
                if (length > best.length) best = java.util.Arrays.copyOf(row, length);
            }
            LargerWithin x = Due.with(text.toString());
            Due.is("how many of " + text, x.nest(-1), best.length);
            for (int k = 0; k < best.length; k++) Due.is("BOX " + k + " of " + text, x.nest(k), best[k]);
            Due.is("no more of " + text, x.nest(best.length), -1);
        }
    }

    // "-2: the ROW; -6; -3: a number that is no ITEM, or one twice"
    private static void voyageRows() {
        LargerWithin x = Due.with(Due.times(WIDE, 2) + Due.times(SMALL, 2));
        for (int row : new int[] {-1, 4, MIN, MAX}) {
            Due.is("ROW " + row, x.voyage(row), -2);
            Due.is("best, ROW " + row, x.voyages(row, 0), -2);
        }
        for (int row = 0; row < 4; row++) {
            Due.is("MISSING " + row, x.voyage(row), -6);
            Due.is("best, MISSING " + row, x.voyages(row, 0), -6);
        }
        for (long i : new long[] {-1, 2, 7, 10, 23, 24, 32, 40, 256, 1L << 32, (1L << 32) + 8, Long.MIN_VALUE, Long.MAX_VALUE}) {
            Due.row(x, 0, 3, 8, i);
            Due.is("no ITEM " + i, x.voyage(0), -3);
            Due.is("best, no ITEM " + i, x.voyages(0, 0), -3);
        }
        for (long i : new long[] {0, 1, 9}) {
            Due.row(x, 0, 3, 8, i);
            Due.is("an ITEM " + i, x.voyage(0), 0);
            Due.row(x, 0, 3, i, 8, i);
            Due.is("twice " + i, x.voyage(0), -3);
            Due.is("best, twice " + i, x.voyages(0, 0), -3);
        }
        x.numbers(0, 0, 40);
        Due.is("forty times 0", x.voyage(0), -3);
    }

    // "all that is OVER it is lifted off and comes back as it was, it itself stays out"
    private static void voyageLiftings() {
        LargerWithin x = Due.with(FULL);
        for (int t = 8; t < 24; t++) x.put(t, 0);
        long[] up = new long[16];
        long[] down = new long[16];
        for (int t = 0; t < 16; t++) {
            up[t] = 8 + t;
            down[t] = 23 - t;
        }
        Due.row(x, 0, 0, up);
        Due.is("from below: 15 + 14 + .. + 0", x.voyage(0), 120);
        Due.row(x, 0, 0, down);
        Due.is("from above", x.voyage(0), 0);
        Due.row(x, 0, 0, 8, 9);
        Due.is("what was lifted comes back", x.voyage(0), 15 + 14);
        Due.row(x, 0, 0, 9, 8);
        Due.is("it itself stays out", x.voyage(0), 14 + 14);
        long[] all = new long[24];
        for (int k = 0; k < 24; k++) all[k] = k;
        Due.row(x, 0, 0, all);
        Due.is("all ITEMS of the full store", x.voyage(0), 120);
        Due.row(x, 0, 0);
        Due.is("none", x.voyage(0), 0);
        Due.is("nothing moved", x.box(0, 4), 16);
        LargerWithin y = Due.with(FULL);
        y.put(8, 0);
        y.put(0, 1);
        y.put(9, 1);
        Due.row(y, 0, 0, 8);
        Due.is("OVER its BOX", y.voyage(0), 1);
        Due.row(y, 0, 0, 0, 8);
        Due.is("its BOX stays out", y.voyage(0), 1);
        Due.row(y, 0, 0, 1, 8);
        Due.is("the one around was out already", y.voyage(0), 1);
        Due.row(y, 0, 0, 9, 8);
        Due.is("what was OVER it stays out", y.voyage(0), 0);
    }

    // "more than 5", "of like ones the first by ITEMS"
    private static void voyagesOfFive() {
        LargerWithin x = Due.with(FULL);
        for (int t = 8; t < 16; t++) x.put(t, 0);
        Due.row(x, 0, 0, 8, 9, 10, 11, 12);
        Due.is("five", x.voyages(0, 0), 15);
        int[] order = {12, 11, 10, 9, 8};
        for (int k = 0; k < 5; k++) Due.is("from above " + k, x.voyages(0, 10 + k), order[k]);
        Due.row(x, 0, 0, 8, 9, 10, 11, 12, 13);
        Due.is("six", x.voyages(0, 0), -3);
        Due.is("six, a place", x.voyages(0, 10), -3);
        Due.is("six, as told", x.voyage(0), 7 + 6 + 5 + 4 + 3 + 2);
        Due.row(x, 0, 0, 23, 7, 16, 1, 2);
        int[] floor = {1, 2, 7, 16, 23};
        Due.is("all on THE FLOOR", x.voyages(0, 0), 0);
        for (int k = 0; k < 5; k++) Due.is("the first by ITEMS " + k, x.voyages(0, 10 + k), floor[k]);
        Due.row(x, 0, 0, 8);
        Due.is("one", x.voyages(0, 0), 7);
        Due.is("the one", x.voyages(0, 10), 8);
        Due.is("no second", x.voyages(0, 11), -1);
    }

    // "-2: the ROW, what (10 to 14); -6; -3", "NONE: not so many"
    private static void voyagesWhat() {
        LargerWithin x = Due.with(FULL);
        for (int what : new int[] {-1, 1, 2, 9, 15, 16, 40, MIN, MAX}) {
            Due.is("what " + what + " ahead of -6", x.voyages(0, what), -2);
        }
        Due.row(x, 0, 0, 8, 8);
        for (int what : new int[] {-1, 1, 9, 15}) Due.is("what " + what + " ahead of -3", x.voyages(0, what), -2);
        for (int what : new int[] {0, 10, 14}) Due.is("-3 at what " + what, x.voyages(0, what), -3);
        Due.row(x, 0, 0, 9, 8);
        Due.is("what 11", x.voyages(0, 11), 9);
        for (int what : new int[] {12, 13, 14}) Due.is("not so many " + what, x.voyages(0, what), -1);
        Due.row(x, 0, 0);
        Due.is("none", x.voyages(0, 0), 0);
        for (int what : new int[] {10, 11, 12, 13, 14}) Due.is("none at " + what, x.voyages(0, what), -1);
    }

    /** All orders of four ITEMS, told to voyage(): the fewest liftings, and the first of those orders. */
    private static void voyagesByAllOrders() {
        int[][] wanted = {{0, 8, 9, 10}, {0, 1, 8, 11}, {1, 9, 10, 12}, {8, 9, 12, 13}, {0, 10, 11, 13}, {2, 8, 10, 12}};
        for (int[] items : wanted) {
            LargerWithin x = Due.with(FULL);
            // in 0: 8 9; in 1: 10 0 11; in 2: 12 1 13
            int[][] puts = {{8, 0}, {9, 0}, {10, 1}, {0, 1}, {11, 1}, {12, 2}, {1, 2}, {13, 2}};
            for (int[] one : puts) x.put(one[0], one[1]);
            Due.is("all are IN BOXES", x.count(3), 8);
            int fewest = MAX;
            int[] best = null;
            x.numbers(0, 0, 4);
            for (int code = 0; code < 256; code++) {
                int[] order = new int[4];
                int seen = 0;
                for (int k = 0; k < 4; k++) {
                    order[k] = items[code >> 6 - 2 * k & 3];
                    seen |= 1 << order[k];
                }
                if (Integer.bitCount(seen) < 4) continue;
                for (int k = 0; k < 4; k++) x.write(0, k, order[k]);
                int liftings = x.voyage(0);
                if (liftings < fewest) {
                    fewest = liftings;
                    best = order;
                }
            }
            Due.is("fewest of " + items[0] + " ..", x.voyages(0, 0), fewest);
            for (int k = 0; k < 4; k++) Due.is("order of " + items[0] + " .., " + k, x.voyages(0, 10 + k), best[k]);
            x.numbers(0, 0, 1);
            x.write(0, 0, 13);
            Due.is("then of one on top", x.voyages(0, 0), 0);
            x.write(0, 0, 0);
            Due.is("then of BOX 0", x.voyages(0, 0), 2);
            Due.is("which is BOX 0", x.voyages(0, 10), 0);
        }
    }
}
