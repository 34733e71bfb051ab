/** The edges that the document names for where all lies: HALVED, ROOM, PUT, TAKEN, ACTS: promises 6 to 14. */
public final class LiesEdgesTest {
    private static final int MIN = Integer.MIN_VALUE;
    private static final int MAX = Integer.MAX_VALUE;
    private static final int[] NO_ITEMS = {-1, 24, 31, 32, 40, 256, 264, MIN, MIN + 8, MAX};
    /** Eight BOXES that go into one another, sixteen THINGS that go anywhere. */
    private static final String FULL = Due.times("box 1 by 1 lid 1 times 64 weight 1 bears 99;", 8) + Due.times("thing 1 by 1 weight 1 worth 1;", 16);

    public static void main(String[] args) {
        emptyStore();
        noSuchItems();
        halved();
        roomIsCutOnce();
        fullStoreInOneBox();
        eightDeep();
        listOfABox();
        putOnTheFloor();
        putInItself();
        putThroughTheLid();
        putTooHeavy();
        putWithoutRoom();
        firstToldReason();
        refusedPutChangesNothing();
        onTopAsTheyCame();
        taken();
        allComesOnTheFloor();
        overAsTheyAreLifted();
        theFirstBoxUpon();
        everyAct();
        actsThatWrap();
        judgedAsIfDone();
        rowsOfActs();
        tillOneCant();
        Due.end("LiesEdgesTest");
    }

    private static void emptyStore() {
        LargerWithin x = new LargerWithin();
        for (int i : new int[] {0, 7, 8, 23, -1, 24}) {
            Due.is("empty: lies " + i, x.lies(i, 0), -2);
            Due.is("empty: box " + i, x.box(i, 0), -2);
            Due.is("empty: may " + i, x.may(i, 0), -2);
            Due.is("empty: put " + i, x.put(i, 0), -2);
            Due.is("empty: take " + i, x.take(i), -2);
            Due.is("empty: over " + i, x.over(i, 0), -2);
        }
        Due.is("empty: empty", x.empty(), 0);
        Due.is("empty: a list", x.box(0, 10), -2);
        x.numbers(0, 0, 0);
        Due.is("empty: no ACTS, place", x.judge(0, 0), -1);
        Due.is("empty: no ACTS, why", x.judge(0, 1), 0);
        Due.is("empty: no ACTS, IN BOXES", x.judge(0, 2), 0);
        Due.is("empty: no ACTS", x.perform(0), 0);
        x.numbers(0, 0, 1);
        Due.is("empty: ACT 0", x.judge(0, 1), -2);
        Due.is("empty: ACT 0, place", x.judge(0, 0), 0);
        Due.is("empty: ACT 0 is not done", x.perform(0), 0);
    }

    // "-2 there is none such"
    private static void noSuchItems() {
        LargerWithin x = Due.with(Due.times(Due.box(9, 1, 1, 9, 1, 99), 2) + Due.times(Due.thing(1, 1, 1, 1), 2));
        int[] none = {2, 7, 10, 23, -1, -8, 24, 32, 40, MIN, MAX};
        for (int i : none) {
            Due.is("lies " + i, x.lies(i, 0), -2);
            Due.is("may " + i, x.may(i, 0), -2);
            Due.is("put " + i, x.put(i, 0), -2);
            Due.is("take " + i, x.take(i), -2);
            Due.is("over " + i, x.over(i, 0), -2);
            Due.is("box " + i, x.box(i, 0), -2);
            Due.is("may into " + i, x.may(8, i), -2);
            Due.is("put into " + i, x.put(8, i), -2);
        }
        for (int thing : new int[] {8, 9}) {
            Due.is("a THING is no BOX " + thing, x.box(thing, 0), -2);
            Due.is("may into a THING " + thing, x.may(8, thing), -2);
            Due.is("put into a THING " + thing, x.put(0, thing), -2);
        }
        for (int what : new int[] {-1, 4, 5, 10, MIN, MAX}) Due.is("lies, what " + what, x.lies(8, what), -2);
        for (int what : new int[] {-1, 5, 6, 7, 8, 9, -10, MIN, MIN + 10}) Due.is("box, what " + what, x.box(0, what), -2);
        for (int what : new int[] {10, 11, 33, 42, MAX - 1, MAX}) Due.is("box, not so many " + what, x.box(0, what), -7);
        for (int what : new int[] {10, 11, MAX}) Due.is("no box, not so many " + what, x.box(2, what), -2);
        Due.is("nothing moved", x.count(3), 0);
    }

    // "HALVED is a BOX once if it is IN another one, and once for each BOX that is IN it (not deeper ones)."
    private static void halved() {
        LargerWithin x = Due.with(FULL);
        Due.is("on THE FLOOR, empty", x.box(0, 3), 0);
        x.put(8, 0);
        Due.is("THINGS don't halve", x.box(0, 3), 0);
        x.put(0, 1);
        Due.is("once: IN another one", x.box(0, 3), 1);
        Due.is("once: one IN it", x.box(1, 3), 1);
        x.put(1, 2);
        Due.is("twice: both", x.box(1, 3), 2);
        Due.is("deeper ones don't", x.box(2, 3), 1);
        Due.is("ones around that don't", x.box(0, 3), 1);
        x.put(3, 2);
        Due.is("once for each", x.box(2, 3), 2);
        x.put(2, 4);
        Due.is("thrice", x.box(2, 3), 3);
        x.take(2);
        Due.is("again on THE FLOOR", x.box(2, 3), 2);
        x.take(3);
        Due.is("one is out", x.box(2, 3), 1);
    }

    // "ROOM of a BOX: SIZE times FACTOR, by 2 for each time it is HALVED, cut once."
    private static void roomIsCutOnce() {
        LargerWithin x = Due.with(Due.box(37, 1, 9, 63, 1, 99) + Due.times(Due.box(1, 1, 1, 1, 1, 9), 7));
        int whole = 37 * 63;
        for (int b = 1; b <= 7; b++) {
            Due.is("ROOM with " + (b - 1) + " BOXES", x.box(0, 0), whole >> b - 1);
            Due.is("one more", x.put(b, 0), b);
            Due.is("HALVED by it", x.box(0, 3), b);
            Due.is("itself HALVED", x.box(b, 3), 1);
            Due.is("its ROOM: a half, cut", x.box(b, 0), 0);
        }
        Due.is("ROOM with all seven", x.box(0, 0), whole >> 7);
        LargerWithin odd = Due.with(Due.box(3, 1, 1, 5, 1, 9) + Due.box(3, 1, 1, 1, 1, 9) + Due.box(9, 9, 9, 9, 1, 9));
        odd.put(1, 0);
        Due.is("15 by 2", odd.box(0, 0), 7);
        odd.put(0, 2);
        Due.is("15 by 4", odd.box(0, 0), 3);
    }

    private static void fullStoreInOneBox() {
        LargerWithin x = Due.with(Due.box(99, 9, 9, 64, 1, 9999) + Due.times(Due.box(1, 1, 1, 1, 1, 1), 7) + Due.times(Due.thing(1, 1, 1, 1), 16));
        for (int t = 8; t < 24; t++) Due.is("THING " + t, x.put(t, 0), t - 7);
        for (int b = 1; b < 8; b++) Due.is("BOX " + b, x.put(b, 0), 16 + b);
        Due.is("many IN it", x.box(0, 4), 23);
        Due.is("FILL", x.box(0, 1), 23);
        Due.is("LOAD", x.box(0, 2), 23);
        Due.is("HEFT", x.lies(0, 2), 24);
        Due.is("IN BOXES", x.count(3), 23);
        Due.is("worth", x.count(5), 16);
        Due.is("over the lowest", x.lies(8, 1), 22);
        Due.is("the first to be lifted", x.over(8, 0), 7);
        Due.is("the last to be lifted", x.over(8, 21), 9);
        Due.is("no 23rd", x.over(8, 22), -1);
        Due.is("the lowest", x.box(0, 10), 8);
        Due.is("the topmost", x.box(0, 32), 7);
        Due.is("none upon it", x.box(0, 33), -7);
        Due.is("all come out", x.empty(), 23);
    }

    private static void eightDeep() {
        LargerWithin x = Due.with(FULL);
        x.put(8, 0);
        for (int b = 0; b < 7; b++) Due.is("BOX " + b, x.put(b, b + 1), 1);
        for (int b = 0; b < 8; b++) {
            Due.is("around " + b, x.lies(b, 3), 7 - b);
            Due.is("HEFT of " + b, x.lies(b, 2), b + 2);
            Due.is("LOAD of " + b, x.box(b, 2), b + 1);
            Due.is("HALVED " + b, x.box(b, 3), b == 0 || b == 7 ? 1 : 2);
            Due.is("ROOM of " + b, x.box(b, 0), b == 0 || b == 7 ? 32 : 16);
        }
        Due.is("eight around the THING", x.lies(8, 3), 8);
        Due.is("nothing OVER it", x.lies(8, 1), 0);
        for (int b = 7; b >= 0; b--) x.put(9 + b, b);
        Due.is("one OVER it in each", x.lies(8, 1), 1);
        Due.is("the outermost would hide the others", x.count(3), 9);
        // from the innermost on each can be PUT, as nothing is OVER its BOX yet
        LargerWithin y = Due.with(FULL);
        y.put(8, 0);
        for (int b = 0; b < 8; b++) {
            Due.is("upon what is in " + b, y.put(9 + b, b), 2);
            if (b < 7) Due.is("BOX " + b, y.put(b, b + 1), 1);
        }
        Due.is("eight OVER it", y.lies(8, 1), 8);
        for (int k = 0; k < 8; k++) Due.is("the outermost first " + k, y.over(8, k), 16 - k);
        Due.is("no ninth", y.over(8, 8), -1);
        for (int b = 7; b >= 0; b--) Due.is("OVER BOX " + b, y.lies(b, 1), 7 - b);
    }

    // "10 + k: the k-th of these, the lowest first", "-7: not so many"
    private static void listOfABox() {
        LargerWithin x = Due.with(FULL);
        Due.is("none IN it", x.box(0, 10), -7);
        x.put(10, 0);
        Due.is("the first", x.box(0, 10), 10);
        Due.is("no second", x.box(0, 11), -7);
        x.put(8, 0);
        x.put(9, 0);
        Due.is("the second, as it came", x.box(0, 11), 8);
        Due.is("the third", x.box(0, 12), 9);
        Due.is("no fourth", x.box(0, 13), -7);
        x.take(9);
        Due.is("no third any more", x.box(0, 12), -7);
        x.put(11, 0);
        Due.is("another third", x.box(0, 12), 11);
        Due.is("ahead of the list", x.box(0, 9), -2);
    }

    // "-5 it isn't on THE FLOOR, or the BOX isn't AT HAND"
    private static void putOnTheFloor() {
        LargerWithin x = Due.with(FULL);
        Due.is("on THE FLOOR", x.may(8, 0), 0);
        x.put(8, 0);
        Due.is("IN that BOX already", x.may(8, 0), -5);
        Due.is("IN another", x.may(8, 1), -5);
        x.put(0, 1);
        Due.is("a BOX IN a BOX is AT HAND, if nothing is OVER it", x.may(9, 0), 0);
        x.put(10, 1);
        Due.is("one is OVER it", x.may(9, 0), -5);
        Due.is("the one around is AT HAND", x.may(9, 1), 0);
        x.put(1, 2);
        x.put(11, 2);
        Due.is("one is OVER the one around", x.may(9, 1), -5);
        Due.is("it still is OVER the inner one", x.may(9, 0), -5);
        x.take(11);
        Due.is("the one around again", x.may(9, 1), 0);
        Due.is("not yet the inner one", x.may(9, 0), -5);
        x.take(10);
        Due.is("now the inner one", x.may(9, 0), 0);
    }

    // "-8 the ITEM is that BOX, or that BOX is IN it, or IN one IN it, and so on"
    private static void putInItself() {
        LargerWithin x = Due.with(FULL);
        for (int b = 0; b < 8; b++) Due.is("itself " + b, x.may(b, b), -8);
        for (int b = 0; b < 7; b++) {
            x.put(b, b + 1);
            for (int inner = 0; inner <= b; inner++) Due.is("IN it " + (b + 1 - inner) + " deep", x.may(b + 1, inner), -8);
        }
        Due.is("a THING can be", x.may(8, 0), 0);
        x.take(6);
        Due.is("what is no longer IN it", x.may(7, 0), 0);
        Due.is("still IN it", x.may(6, 0), -8);
    }

    // "-9 its OUTLINE is above the LID"
    private static void putThroughTheLid() {
        LargerWithin x = Due.with(Due.box(9, 99, 5, 64, 1, 99) + Due.box(1, 5, 98, 1, 1, 99) + Due.box(1, 6, 99, 1, 1, 99)
            + Due.thing(1, 4, 1, 1) + Due.thing(1, 5, 1, 1) + Due.thing(1, 6, 1, 1) + Due.thing(1, 98, 1, 1) + Due.thing(1, 99, 1, 1));
        Due.is("below the LID", x.may(8, 0), 0);
        Due.is("as the LID", x.may(9, 0), 0);
        Due.is("above the LID", x.may(10, 0), -9);
        Due.is("a BOX as the LID", x.may(1, 0), 0);
        Due.is("a BOX above the LID", x.may(2, 0), -9);
        Due.is("as a LID of 98", x.may(11, 1), 0);
        Due.is("above a LID of 98", x.may(12, 1), -9);
        Due.is("as a LID of 99", x.may(12, 2), 0);
        // the LID of a BOX around has no say
        LargerWithin y = Due.with(Due.box(1, 1, 9, 64, 1, 99) + Due.box(9, 9, 1, 64, 1, 99) + Due.thing(1, 9, 1, 1));
        y.put(0, 1);
        Due.is("through the LID of the one alone", y.may(8, 0), 0);
        Due.is("not through that of the one around", y.may(8, 1), -9);
    }

    // "-10 LOAD of that BOX, or of one around it, would be above what it BEARS"
    private static void putTooHeavy() {
        LargerWithin x = Due.with(Due.box(1, 1, 9, 64, 1, 10) + Due.box(1, 1, 9, 64, 1, 12) + Due.box(1, 1, 9, 64, 1, 14)
            + Due.thing(1, 1, 10, 1) + Due.thing(1, 1, 11, 1) + Due.thing(1, 1, 1, 1) + Due.thing(1, 1, 2, 1) + Due.thing(1, 1, 9, 1));
        Due.is("as it BEARS", x.may(8, 0), 0);
        Due.is("above what it BEARS", x.may(9, 0), -10);
        x.put(10, 0);
        Due.is("as it BEARS, with what is IN it", x.may(12, 0), 0);
        Due.is("above, with what is IN it", x.may(8, 0), -10);
        // 0 weighs 1 and holds 10: 11 in 1 (12), 12 in 2 (14)
        x.put(12, 0);
        Due.is("what is IN the ITEM weighs, too", x.put(0, 1), 1);
        Due.is("and on", x.put(1, 2), 1);
        Due.is("LOAD of the outermost", x.box(2, 2), 12);
        Due.is("the inner one BEARS no more", x.may(11, 0), -10);
        Due.is("the middle one would BEAR one", x.may(11, 1), -10);
        Due.is("the outermost BEARS two", x.may(11, 2), 0);
        x.take(12);
        x.take(10);
        // now 2 bears 14 and has 2; 1 bears 12 and has 1; 0 bears 10 and has 0
        Due.is("10 into the inner one: 10, 11, 12", x.may(8, 0), 0);
        Due.is("11 into the inner one", x.may(9, 0), -10);
        Due.is("11 into the middle one: 12, 13", x.may(9, 1), 0);
        LargerWithin y = Due.with(Due.box(1, 1, 9, 64, 1, 99) + Due.box(1, 1, 9, 64, 1, 99) + Due.box(1, 1, 9, 64, 1, 9) + Due.thing(1, 1, 7, 1) + Due.thing(1, 1, 8, 1));
        y.put(0, 1);
        y.put(1, 2);
        Due.is("two BOXES and 7 into 9", y.may(8, 0), 0);
        Due.is("two BOXES and 8 into 9: the outermost", y.may(9, 0), -10);
        y.take(1);
        y.put(9, 0);
        Due.is("the outermost again", y.may(1, 2), -10);
        y.take(9);
        y.put(8, 0);
        Due.is("the outermost just BEARS it", y.may(1, 2), 0);
    }

    // "-11 FILL would be above ROOM of that BOX, or (if the ITEM is a BOX) of the ITEM, both HALVED as they would be then"
    private static void putWithoutRoom() {
        LargerWithin x = Due.with(Due.box(5, 1, 9, 5, 1, 99) + Due.box(12, 1, 9, 2, 1, 99) + Due.box(13, 1, 9, 2, 1, 99) + Due.box(1, 1, 9, 13, 1, 99)
            + Due.thing(25, 1, 1, 1) + Due.thing(26, 1, 1, 1) + Due.thing(1, 1, 1, 1) + Due.thing(6, 1, 1, 1) + Due.thing(7, 1, 1, 1));
        Due.is("as its ROOM", x.may(8, 0), 0);
        Due.is("above its ROOM", x.may(9, 0), -11);
        Due.is("a BOX as half its ROOM, cut: 12", x.may(1, 0), 0);
        Due.is("a BOX above half its ROOM: 13", x.may(2, 0), -11);
        x.put(10, 0);
        Due.is("THING and all the rest", x.may(8, 0), -11);
        Due.is("THING and a BOX: 13 of 12", x.may(1, 0), -11);
        x.take(10);
        x.put(1, 0);
        Due.is("what is HALVED is full", x.may(10, 0), -11);
        // the ITEM: BOX 3 of 13 holds 6 when it is HALVED
        x.empty();
        x.put(11, 3);
        Due.is("the ITEM is filled as half its ROOM", x.may(3, 0), 0);
        x.take(11);
        x.put(12, 3);
        Due.is("the ITEM is filled above half its ROOM", x.may(3, 0), -11);
        Due.is("it is so for any BOX", x.may(3, 1), -11);
        // a quarter for one that is in another and gets one in it: 13 * 2 by 4 is 6
        LargerWithin y = Due.with(Due.box(13, 1, 9, 2, 1, 99) + Due.box(9, 1, 9, 9, 1, 99) + Due.box(6, 1, 9, 9, 1, 99) + Due.box(7, 1, 9, 9, 1, 99) + Due.thing(13, 1, 1, 1) + Due.thing(14, 1, 1, 1));
        y.put(0, 1);
        Due.is("13 of a half of 26", y.may(8, 0), 0);
        Due.is("14 of a half of 26", y.may(9, 0), -11);
        Due.is("6 of a quarter of 26", y.may(2, 0), 0);
        Due.is("7 of a quarter of 26", y.may(3, 0), -11);
        y.take(0);
        y.put(3, 0);
        Due.is("7 in it, then it is HALVED twice", y.may(0, 1), -11);
        y.take(3);
        y.put(2, 0);
        Due.is("6 in it, then it is HALVED twice", y.may(0, 1), 0);
    }

    // "(Of several that which is told first.)"
    private static void firstToldReason() {
        // box 0 bears 1, room 1, lid 1; 8 is too wide, too heavy, too large; 9 too heavy, too large; 10 too large; 11 too wide, too large; 12 too wide, too heavy
        LargerWithin x = Due.with(Due.box(1, 9, 1, 1, 9, 1) + Due.box(9, 9, 9, 9, 9, 99) + Due.thing(2, 2, 2, 1) + Due.thing(2, 1, 2, 1) + Due.thing(2, 1, 1, 1) + Due.thing(2, 2, 1, 1) + Due.thing(1, 2, 2, 1) + Due.thing(1, 1, 1, 1));
        Due.is("-9 of -9, -10, -11", x.may(8, 0), -9);
        Due.is("-10 of -10, -11", x.may(9, 0), -10);
        Due.is("-11 alone", x.may(10, 0), -11);
        Due.is("-9 of -9, -11", x.may(11, 0), -9);
        Due.is("-9 of -9, -10", x.may(12, 0), -9);
        Due.is("-8 of -8, -9, -10, -11", x.may(0, 0), -8);
        x.put(8, 1);
        Due.is("-5 of -5, -9, -10, -11", x.may(8, 0), -5);
        Due.is("none", x.may(13, 0), 0);
        x.put(0, 1);
        Due.is("-5 of -5, -8", x.may(0, 0), -5);
        Due.is("-8 of -8 alone", x.may(1, 0), -8);
        x.put(13, 1);
        Due.is("-5 of a BOX that isn't AT HAND and IN it", x.may(1, 0), -5);
        Due.is("-5 of a BOX that isn't AT HAND, -9", x.may(11, 0), -5);
    }

    // "Refused calls answer by a code and change nothing"
    private static void refusedPutChangesNothing() {
        LargerWithin x = Due.with(Due.box(1, 9, 1, 1, 9, 1) + Due.box(9, 9, 9, 9, 9, 99) + Due.thing(2, 2, 2, 1) + Due.thing(2, 1, 2, 1) + Due.thing(2, 1, 1, 1) + Due.thing(1, 1, 1, 7));
        x.put(11, 1);
        int[][] refused = {{11, 0, -5}, {11, 1, -5}, {0, 0, -8}, {8, 0, -9}, {9, 0, -10}, {10, 0, -11}, {12, 0, -2}, {8, 2, -2}, {8, 8, -2}};
        for (int[] one : refused) {
            Due.is("put " + one[0] + " into " + one[1], x.put(one[0], one[1]), one[2]);
            Due.is("may " + one[0] + " into " + one[1], x.may(one[0], one[1]), one[2]);
            Due.is("one is packed", x.count(3), 1);
            Due.is("it lies where it lay", x.lies(11, 0), 1);
            Due.is("FILL of 0", x.box(0, 1), 0);
            Due.is("FILL of 1", x.box(1, 1), 1);
            Due.is("HALVED 0", x.box(0, 3), 0);
        }
        Due.is("take of none", x.take(12), -2);
        Due.is("take from THE FLOOR", x.take(8), -5);
        Due.is("one is still packed", x.count(5), 7);
    }

    // "one upon another as they came, the latest on top"
    private static void onTopAsTheyCame() {
        LargerWithin x = Due.with(FULL);
        int[] order = {20, 8, 15, 1, 9};
        for (int k = 0; k < 5; k++) Due.is("as many as came", x.put(order[k], 0), k + 1);
        for (int k = 0; k < 5; k++) Due.is("lies at " + k, x.box(0, 10 + k), order[k]);
        for (int k = 0; k < 5; k++) Due.is("OVER it", x.lies(order[k], 1), 4 - k);
        Due.is("the latest", x.take(9), 0);
        Due.is("the one below it", x.take(1), 0);
        Due.is("the latest comes again", x.put(9, 0), 4);
        Due.is("it is on top", x.lies(9, 1), 0);
        Due.is("the one below", x.lies(15, 1), 1);
    }

    // "TAKEN: an ITEM that is AT HAND IN a BOX comes on THE FLOOR; -5: it is on THE FLOOR, or not AT HAND."
    private static void taken() {
        LargerWithin x = Due.with(FULL);
        for (int i : new int[] {0, 7, 8, 23}) Due.is("on THE FLOOR " + i, x.take(i), -5);
        for (int i : NO_ITEMS) Due.is("no ITEM " + i, x.take(i), -2);
        x.put(8, 7);
        x.put(23, 7);
        Due.is("not AT HAND", x.take(8), -5);
        Due.is("it stays", x.lies(8, 0), 7);
        Due.is("AT HAND", x.take(23), 7);
        Due.is("not twice", x.take(23), -5);
        Due.is("the one below", x.take(8), 7);
        x.put(8, 0);
        x.put(0, 1);
        x.put(9, 1);
        Due.is("one is OVER its BOX", x.take(8), -5);
        Due.is("one is OVER the BOX", x.take(0), -5);
        Due.is("the BOX around is on THE FLOOR", x.take(1), -5);
        Due.is("that one", x.take(9), 1);
        Due.is("out of the BOX in the BOX", x.take(8), 0);
        x.put(8, 0);
        Due.is("a BOX with what is IN it", x.take(0), 1);
        Due.is("it stays IN it", x.lies(8, 0), 0);
    }

    // "All comes on THE FLOOR: how many ITEMS were IN BOXES."
    private static void allComesOnTheFloor() {
        LargerWithin x = Due.with(FULL);
        Due.is("none", x.empty(), 0);
        x.put(8, 0);
        Due.is("one", x.empty(), 1);
        Due.is("none any more", x.empty(), 0);
        x.put(8, 0);
        x.put(0, 1);
        x.put(9, 1);
        Due.is("three", x.empty(), 3);
        for (int i : new int[] {0, 1, 8, 9}) Due.is("on THE FLOOR " + i, x.lies(i, 0), -1);
        for (int b = 0; b < 8; b++) Due.is("not HALVED " + b, x.box(b, 3), 0);
        Due.is("the lowest again", x.put(9, 0), 1);
        Due.is("nothing OVER it", x.lies(9, 1), 0);
    }

    // "The k-th ITEM that is OVER an ITEM .. NONE: not so many; -2."
    private static void overAsTheyAreLifted() {
        LargerWithin x = Due.with(FULL);
        for (int i : NO_ITEMS) Due.is("no ITEM " + i, x.over(i, 0), -2);
        for (int k : new int[] {0, 1, MAX}) Due.is("on THE FLOOR " + k, x.over(8, k), -1);
        x.put(8, 0);
        Due.is("alone", x.over(8, 0), -1);
        x.put(9, 0);
        x.put(10, 0);
        Due.is("the topmost", x.over(8, 0), 10);
        Due.is("the one below it", x.over(8, 1), 9);
        Due.is("not so many", x.over(8, 2), -1);
        Due.is("over the middle", x.over(9, 0), 10);
        Due.is("not so many over the middle", x.over(9, 1), -1);
        Due.is("over the top", x.over(10, 0), -1);
        x.put(0, 1);
        x.put(11, 1);
        x.put(12, 1);
        int[] order = {12, 11, 10, 9};
        for (int k = 0; k < 4; k++) Due.is("the outer ones first " + k, x.over(8, k), order[k]);
        Due.is("no fifth", x.over(8, 4), -1);
        Due.is("over the BOX", x.over(0, 1), 11);
        Due.is("not what is IN it", x.over(0, 2), -1);
        Due.is("far too many", x.over(8, MAX), -1);
    }

    /** BOX 0 is an ITEM like any other: upon others, below others, in a list. */
    private static void theFirstBoxUpon() {
        LargerWithin x = Due.with(FULL);
        x.put(8, 1);
        x.put(0, 1);
        Due.is("BOX 0 is OVER it", x.lies(8, 1), 1);
        Due.is("it is to be lifted", x.over(8, 0), 0);
        Due.is("none else", x.over(8, 1), -1);
        Due.is("not AT HAND", x.take(8), -5);
        Due.is("BOX 0 in the list", x.box(1, 11), 0);
        Due.is("two are IN it", x.box(1, 4), 2);
        Due.is("it is HALVED", x.box(1, 3), 1);
        Due.is("FILL", x.box(1, 1), 2);
        Due.is("LOAD", x.box(1, 2), 2);
        Due.is("IN BOXES", x.count(3), 2);
        x.put(2, 3);
        x.put(9, 2);
        Due.is("BOX 0 is taken", x.take(0), 1);
        Due.is("and PUT upon a BOX", x.put(0, 3), 2);
        Due.is("which isn't AT HAND then", x.may(10, 2), -5);
        Due.is("OVER what is IN that BOX", x.over(9, 0), 0);
        Due.is("all on THE FLOOR", x.empty(), 4);
    }

    // "100 times a BOX and an ITEM: it is PUT; 1000 and an ITEM: it is TAKEN; others can't be (-2)"
    private static void everyAct() {
        String text = Due.times(Due.box(1, 1, 1, 64, 1, 99), 3) + Due.times(Due.thing(1, 1, 1, 1), 5);
        LargerWithin x = Due.with(text);
        int calls = 0;
        for (int act = -1200; act <= 2300; act++) {
            if (calls > 400) {
                x = Due.with(text);
                calls = 0;
            }
            Due.row(x, 0, 3, act);
            int at = Math.floorMod(act, 100);
            boolean isItem = at < 3 || at >= 8 && at < 13;
            boolean isPut = act >= 0 && act < 300 && isItem;
            boolean isTaken = act >= 1000 && act < 1100 && isItem;
            int why = isPut ? (at == act / 100 ? -8 : 0) : isTaken ? -5 : -2;
            Due.is("ACT " + act, x.judge(0, 1), why);
            calls += 3;
        }
        LargerWithin full = Due.with(FULL);
        for (int act : new int[] {723, 708, 23, 701, 8, 100}) {
            Due.row(full, 0, 1, act);
            Due.is("of the full store, ACT " + act, full.judge(0, 1), 0);
        }
        for (int act : new int[] {724, 800, 808, 823, 1024, 24, 99, 799}) {
            Due.row(full, 0, 1, act);
            Due.is("not of the full store, ACT " + act, full.judge(0, 1), -2);
        }
        for (int act : new int[] {1000, 1007, 1008, 1023}) {
            Due.row(full, 0, 1, act);
            Due.is("on THE FLOOR, ACT " + act, full.judge(0, 1), -5);
        }
    }

    private static void actsThatWrap() {
        LargerWithin x = Due.with(FULL);
        x.put(8, 0);
        for (long wide : new long[] {1L << 32, 1L << 40, 1L << 63, -1L << 32, 1L << 16, 1L << 8}) {
            Due.row(x, 0, 3, 1008 + wide);
            Due.is("1008 and " + wide, x.judge(0, 1), -2);
            Due.row(x, 0, 3, 109 + wide);
            Due.is("109 and " + wide, x.judge(0, 1), -2);
        }
        for (long odd : new long[] {Long.MIN_VALUE, Long.MAX_VALUE, -1008, -109, -8, -1}) {
            Due.row(x, 0, 3, odd);
            Due.is("ACT " + odd, x.judge(0, 1), -2);
        }
        Due.row(x, 0, 0, 265);
        Due.is("cut to 9 by its sort", x.judge(0, 1), 0);
        Due.row(x, 0, 1, 65536 + 1008);
        Due.is("cut to 1008 by its sort", x.judge(0, 1), 0);
        Due.row(x, 0, 2, (1L << 32) + 1008);
        Due.is("cut to 1008 by 32 bits", x.judge(0, 1), 0);
    }

    // "ACTS of a ROW, judged as if done", "-2: the ROW, what; -6"
    private static void judgedAsIfDone() {
        LargerWithin x = Due.with(FULL);
        x.put(8, 0);
        Due.row(x, 0, 1, 9, 100, 1008, 1009, 1009);
        Due.is("place", x.judge(0, 0), 2);
        Due.is("why", x.judge(0, 1), -5);
        Due.is("IN BOXES", x.judge(0, 2), 3);
        Due.is("nothing is done", x.count(3), 1);
        Due.is("nor HALVED", x.box(0, 3), 0);
        Due.is("judged again alike", x.judge(0, 0), 2);
        Due.row(x, 0, 1, 8);
        Due.is("the first place", x.judge(0, 0), 0);
        Due.is("IN BOXES as ahead of it", x.judge(0, 2), 1);
        for (int row : new int[] {-1, 4, MIN, MAX}) {
            Due.is("ROW " + row, x.judge(row, 0), -2);
            Due.is("perform ROW " + row, x.perform(row), -2);
        }
        for (int what : new int[] {-1, 3, MIN, MAX}) {
            Due.is("what " + what, x.judge(0, what), -2);
            Due.is("what " + what + " of a MISSING one", x.judge(3, what), -2);
        }
        for (int row = 1; row < 4; row++) {
            Due.is("MISSING " + row, x.judge(row, 0), -6);
            Due.is("perform MISSING " + row, x.perform(row), -6);
        }
    }

    private static void rowsOfActs() {
        LargerWithin x = Due.with(FULL);
        x.numbers(3, 1, 40);
        for (int k = 0; k < 40; k++) x.write(3, k, k % 2 == 0 ? 8 : 1008);
        Due.is("forty ACTS", x.judge(3, 0), -1);
        Due.is("no why", x.judge(3, 1), 0);
        Due.is("none IN BOXES", x.judge(3, 2), 0);
        x.write(3, 39, 8);
        Due.is("the last can't be", x.judge(3, 0), 39);
        Due.is("why the last can't be", x.judge(3, 1), -5);
        Due.is("one IN a BOX then", x.judge(3, 2), 1);
        Due.is("39 are done", x.perform(3), 39);
        Due.is("one IN a BOX", x.count(3), 1);
        x.numbers(3, 1, 0);
        Due.is("no ACTS, place", x.judge(3, 0), -1);
        Due.is("no ACTS, why", x.judge(3, 1), 0);
        Due.is("no ACTS, IN BOXES", x.judge(3, 2), 1);
        Due.is("no ACTS are done", x.perform(3), 0);
    }

    // "ACTS of a ROW are done, till one can't be: how many were."
    private static void tillOneCant() {
        LargerWithin x = Due.with(FULL);
        Due.row(x, 0, 1, 8, 9, 8, 10);
        Due.is("two of four", x.perform(0), 2);
        Due.is("both are IN it", x.box(0, 4), 2);
        Due.is("none behind it", x.lies(10, 0), -1);
        Due.is("none now", x.perform(0), 0);
        Due.row(x, 0, 1, 1009, 1008, 8);
        Due.is("all three", x.perform(0), 3);
        Due.is("one IN it", x.box(0, 4), 1);
        Due.row(x, 0, 1, -1, 9);
        Due.is("an ACT that is none", x.perform(0), 0);
        Due.is("nothing is done", x.box(0, 4), 1);
    }
}
