import java.util.Arrays;

/** The edges that the document names for told packings: what is wrong, HOW, LOST: promises 15 to 17. */
public final class PackingEdgesTest {
    private static final int MIN = Integer.MIN_VALUE;
    private static final int MAX = Integer.MAX_VALUE;
    private static final String WIDE = Due.box(1, 1, 9, 64, 1, 999);
    private static final String SMALL = Due.thing(1, 1, 1, 1);

    public static void main(String[] args) {
        emptyStore();
        whichRow();
        asManyNumbersAsItems();
        everyNumberInEveryPlace();
        numbersThatWrap();
        shutInItself();
        aboveTheLid();
        aboveWhatItBears();
        aboveItsRoom();
        firstThatIsWrong();
        asNumbersAlone();
        howWhichAct();
        howRefused();
        howAfterAnother();
        howInOrder();
        howOfTheFullStore();
        lostOrNot();
        lostRefused();
        Due.end("PackingEdgesTest");
    }

    private static void is(LargerWithin x, int wrong, int who, long... numbers) {
        Due.row(x, 0, 3, numbers);
        String name = Arrays.toString(numbers);
        Due.is("wrong with " + name, x.packing(0, 0), wrong);
        Due.is("who of " + name, x.packing(0, 1), who);
        Due.isTrue("how of " + name, wrong == 0 ? x.how(0, -1) >= 0 : x.how(0, -1) == -5);
    }

    private static void lost(LargerWithin x, int due, long... numbers) {
        Due.row(x, 0, 3, numbers);
        Due.is("lost by " + Arrays.toString(numbers), x.lost(0), due);
    }

    private static void emptyStore() {
        LargerWithin x = new LargerWithin();
        for (int row = 0; row < 4; row++) {
            Due.is("empty: MISSING " + row, x.packing(row, 0), -6);
            Due.is("empty: how, MISSING " + row, x.how(row, 0), -6);
            Due.is("empty: lost, MISSING " + row, x.lost(row), -6);
        }
        x.numbers(0, 0, 0);
        Due.is("empty: nothing wrong", x.packing(0, 0), 0);
        Due.is("empty: nobody", x.packing(0, 1), -1);
        Due.is("empty: no ACTS", x.how(0, -1), 0);
        Due.is("empty: no first ACT", x.how(0, 0), -1);
        Due.is("empty: nothing LOST", x.lost(0), 0);
        x.numbers(0, 0, 1);
        Due.is("empty: one number", x.packing(0, 0), -7);
        Due.is("empty: how, one number", x.how(0, -1), -7);
        Due.is("empty: lost, one number", x.lost(0), -7);
    }

    // "-2: the ROW, what; -6; -7"
    private static void whichRow() {
        LargerWithin x = Due.with(WIDE);
        for (int row : new int[] {-1, 4, 5, MIN, MAX}) {
            Due.is("packing ROW " + row, x.packing(row, 0), -2);
            Due.is("how ROW " + row, x.how(row, 0), -2);
            Due.is("lost ROW " + row, x.lost(row), -2);
        }
        for (int what : new int[] {-1, 2, 3, MIN, MAX}) {
            Due.is("what " + what + " ahead of -6", x.packing(0, what), -2);
        }
        Due.row(x, 0, 0, 5, 5);
        Due.is("what 2 ahead of -7", x.packing(0, 2), -2);
        Due.is("-7 ahead of the numbers", x.packing(0, 0), -7);
        Due.is("lost: -7 ahead of -3", x.lost(0), -7);
        Due.is("how: -7", x.how(0, 0), -7);
        Due.row(x, 3, 0, -1);
        Due.is("the last ROW", x.packing(3, 0), 0);
        Due.is("the last what", x.packing(3, 1), -1);
    }

    // "-7: it has not as many numbers as there are ITEMS"
    private static void asManyNumbersAsItems() {
        for (String text : new String[] {WIDE, SMALL, WIDE + SMALL, Due.times(WIDE, 8) + Due.times(SMALL, 16)}) {
            LargerWithin x = Due.with(text);
            int items = x.count(2);
            for (int n : new int[] {0, items - 1, items, items + 1, 40}) {
                long[] numbers = new long[n];
                Arrays.fill(numbers, -1);
                Due.row(x, 0, 0, numbers);
                int due = n == items ? 0 : -7;
                Due.is(n + " numbers for " + items, x.packing(0, 0), due);
                Due.is("how: " + n + " numbers for " + items, x.how(0, -1), due);
                Due.is("lost: " + n + " numbers for " + items, x.lost(0), due);
            }
        }
    }

    // "each the BOX it is IN, or NONE (-1)", "1 a number that is no BOX"
    private static void everyNumberInEveryPlace() {
        LargerWithin x = Due.with(Due.times(WIDE, 3) + Due.times(SMALL, 2));
        int[] items = {0, 1, 2, 8, 9};
        for (int place = 0; place < 5; place++) {
            for (int b : new int[] {-128, -2, 3, 7, 8, 9, 127}) {
                x = Due.with(Due.times(WIDE, 3) + Due.times(SMALL, 2));
                long[] numbers = {-1, -1, -1, -1, -1};
                numbers[place] = b;
                is(x, 1, items[place], numbers);
                Due.is("no BOX " + b + " at " + place, x.lost(0), -3);
            }
            for (int b : new int[] {-1, 0, 1, 2}) {
                x = Due.with(Due.times(WIDE, 3) + Due.times(SMALL, 2));
                long[] numbers = {-1, -1, -1, -1, -1};
                numbers[place] = b;
                boolean isItself = place == b;
                is(x, isItself ? 2 : 0, isItself ? b : -1, numbers);
                Due.is("LOST with " + b + " at " + place, x.lost(0), isItself ? 1 << b : 0);
            }
        }
        x = Due.with(Due.times(WIDE, 3) + Due.times(SMALL, 2));
        is(x, 1, 1, -1, 3, 3, 3, 3);
        is(x, 1, 2, -1, -1, 3, -2, 3);
        is(x, 1, 9, -1, -1, 2, 1, 8);
    }

    private static void numbersThatWrap() {
        LargerWithin x = Due.with(Due.times(WIDE, 2) + SMALL);
        is(x, 1, 0, 1L << 32, -1, -1);
        is(x, 1, 8, -1, -1, (1L << 32) + 1);
        is(x, 1, 8, -1, -1, (1L << 32) - 1);
        is(x, 1, 8, -1, -1, Long.MIN_VALUE);
        is(x, 1, 8, -1, -1, Long.MAX_VALUE);
        is(x, 1, 8, -1, -1, 256);
        is(x, 1, 8, -1, -1, 255);
        lost(x, -3, -1, -1, 1L << 32);
        lost(x, -3, -1, -1, (1L << 32) - 1);
        Due.row(x, 1, 0, 255, 256, 257);
        Due.is("cut by its sort: -1, 0, 1", x.packing(1, 0), 0);
        Due.is("two ACTS", x.how(1, -1), 2);
        Due.row(x, 1, 2, (1L << 32) - 1, 1L << 32, (1L << 32) + 1);
        Due.is("cut by 32 bits: -1, 0, 1", x.packing(1, 0), 0);
    }

    // "2 a BOX is shut in itself (through others, too): the first such"
    private static void shutInItself() {
        LargerWithin x = Due.with(Due.times(WIDE, 4) + SMALL);
        is(x, 2, 3, -1, -1, -1, 3, -1);
        is(x, 2, 2, -1, -1, 3, 2, -1);
        is(x, 2, 1, -1, 2, 3, 1, -1);
        is(x, 2, 0, 1, 2, 3, 0, -1);
        // 0 is IN one that is shut in itself, but not in itself
        is(x, 2, 1, 1, 1, -1, -1, -1);
        is(x, 2, 2, 1, 2, 3, 2, 0);
        is(x, 0, -1, 1, 2, 3, -1, 0);
        is(x, 0, -1, -1, 0, 1, 2, 3);
        LargerWithin all = Due.with(Due.times(WIDE, 8));
        is(all, 2, 0, 7, 0, 1, 2, 3, 4, 5, 6);
        is(all, 0, -1, -1, 0, 1, 2, 3, 4, 5, 6);
        is(all, 2, 1, 1, 2, 3, 4, 5, 6, 7, 1);
        is(all, 2, 7, 1, 2, 3, 4, 5, 6, 7, 7);
    }

    // "3 the first ITEM whose OUTLINE is above the LID"
    private static void aboveTheLid() {
        LargerWithin x = Due.with(Due.box(1, 5, 5, 64, 1, 999) + Due.box(1, 6, 4, 64, 1, 999) + Due.thing(1, 4, 1, 1) + Due.thing(1, 5, 1, 1) + Due.thing(1, 6, 1, 1));
        is(x, 0, -1, -1, -1, 1, 0, -1);
        is(x, 3, 9, -1, -1, 1, 1, 0);
        is(x, 3, 10, -1, -1, 1, 0, 0);
        is(x, 3, 1, -1, 0, -1, -1, 0);
        is(x, 3, 0, 1, -1, -1, -1, -1);
        is(x, 3, 10, -1, -1, -1, -1, 1);
    }

    // "4 the first BOX whose LOAD is above what it BEARS"
    private static void aboveWhatItBears() {
        LargerWithin x = Due.with(Due.box(1, 1, 9, 64, 2, 10) + Due.box(1, 1, 9, 64, 2, 11) + Due.thing(1, 1, 9, 1) + Due.thing(1, 1, 1, 1) + Due.thing(1, 1, 1, 1));
        is(x, 0, -1, -1, -1, 0, 0, -1);
        is(x, 4, 0, -1, -1, 0, 0, 0);
        is(x, 0, -1, 1, -1, 0, -1, -1);
        is(x, 4, 1, 1, -1, 0, 0, -1);
        is(x, 4, 0, 1, -1, 0, 0, 0);
        is(x, 4, 0, -1, 0, 1, -1, -1);
        is(x, 0, -1, -1, 0, -1, 1, 1);
        is(x, 4, 1, 1, -1, 0, 1, -1);
    }

    // "5 the first whose FILL is above its ROOM"
    private static void aboveItsRoom() {
        LargerWithin x = Due.with(Due.box(5, 1, 9, 5, 1, 999) + Due.box(12, 1, 9, 2, 1, 999) + Due.box(9, 1, 9, 64, 1, 999) + Due.thing(13, 1, 1, 1) + Due.thing(12, 1, 1, 1) + Due.thing(1, 1, 1, 1));
        is(x, 0, -1, -1, -1, -1, 0, 0, -1);
        is(x, 5, 0, -1, -1, -1, 0, 0, 0);
        is(x, 0, -1, -1, 0, -1, -1, -1, -1);
        is(x, 5, 0, -1, 0, -1, -1, -1, 0);
        is(x, 0, -1, -1, 0, -1, -1, 1, -1);
        is(x, 5, 1, -1, 0, -1, 1, -1, -1);
        is(x, 0, -1, 2, -1, -1, -1, 0, -1);
        is(x, 5, 0, 2, -1, -1, 0, -1, -1);
        is(x, 5, 0, 2, -1, -1, 0, 0, 0);
        is(x, 5, 0, 2, 0, -1, -1, -1, -1);
        is(x, 5, 0, -1, 0, -1, 1, -1, 0);
    }

    // "What is wrong, the first: 1 .. 2 .. 3 .. 4 .. 5"
    private static void firstThatIsWrong() {
        // 0: lid 1, bears 1, room 1; 8 is too wide, too heavy and too large for it
        LargerWithin x = Due.with(Due.box(1, 9, 1, 1, 1, 1) + Due.box(1, 1, 9, 9, 1, 99) + Due.thing(2, 2, 2, 1) + Due.thing(2, 1, 2, 1) + Due.thing(2, 1, 1, 1) + Due.thing(1, 1, 1, 1));
        is(x, 3, 8, -1, -1, 0, -1, -1, -1);
        is(x, 4, 0, -1, -1, -1, 0, -1, -1);
        is(x, 5, 0, -1, -1, -1, -1, 0, -1);
        is(x, 0, -1, -1, -1, -1, -1, -1, 0);
        is(x, 2, 1, -1, 1, 0, -1, -1, -1);
        is(x, 2, 0, 0, -1, -1, 0, -1, -1);
        is(x, 1, 11, 0, -1, 0, 0, 0, 2);
        is(x, 1, 0, 2, 1, 0, 0, 0, 0);
        is(x, 3, 8, -1, -1, 0, 0, 0, 0);
        is(x, 4, 0, -1, -1, -1, 0, 0, 0);
        is(x, 4, 0, -1, -1, -1, -1, 0, 0);
    }

    // "all as if so", "(all as numbers alone)"
    private static void asNumbersAlone() {
        LargerWithin x = Due.with(Due.box(9, 1, 9, 1, 1, 9) + Due.box(9, 1, 9, 1, 1, 9) + Due.thing(9, 1, 1, 1) + Due.thing(9, 1, 1, 1));
        x.put(8, 0);
        x.put(9, 1);
        is(x, 0, -1, -1, -1, 1, 0);
        is(x, 5, 0, -1, -1, 0, 0);
        is(x, 0, -1, -1, -1, -1, -1);
        Due.is("nothing moved", x.lies(8, 0), 0);
        Due.is("nothing moved either", x.lies(9, 0), 1);
        Due.row(x, 0, 3, -1, -1, 1, 0);
        Due.is("how, as from THE FLOOR", x.how(0, 0), 108);
        Due.is("how, then", x.how(0, 1), 9);
        Due.is("LOST tells nothing of weights", x.lost(0), 0);
    }

    // "its k-th ACT; k NONE: how many. NONE: not so many"
    private static void howWhichAct() {
        LargerWithin x = Due.with(Due.times(WIDE, 2) + Due.times(SMALL, 2));
        Due.row(x, 0, 0, -1, -1, -1, -1);
        Due.is("none", x.how(0, -1), 0);
        Due.is("no first", x.how(0, 0), -1);
        Due.row(x, 0, 0, -1, -1, -1, 1);
        Due.is("one", x.how(0, -1), 1);
        Due.is("the first", x.how(0, 0), 109);
        Due.is("no second", x.how(0, 1), -1);
        Due.row(x, 0, 0, 1, -1, 0, 1);
        Due.is("three", x.how(0, -1), 3);
        Due.is("the last", x.how(0, 2), 109);
        for (int k : new int[] {3, 24, 40, 100, MAX}) Due.is("not so many " + k, x.how(0, k), -1);
    }

    // "-5: something is wrong with it"
    private static void howRefused() {
        LargerWithin x = Due.with(Due.box(1, 9, 1, 1, 1, 1) + Due.box(1, 1, 9, 9, 1, 99) + Due.thing(2, 2, 2, 1) + Due.thing(2, 1, 2, 1) + Due.thing(2, 1, 1, 1));
        long[][] wrong = {{-2, -1, -1, -1, -1}, {0, -1, -1, -1, -1}, {-1, -1, 0, -1, -1}, {-1, -1, -1, 0, -1}, {-1, -1, -1, -1, 0}};
        for (int kind = 1; kind <= 5; kind++) {
            Due.row(x, 0, 0, wrong[kind - 1]);
            Due.is("wrong by " + kind, x.packing(0, 0), kind);
            for (int k : new int[] {-1, 0, 1, 5, MAX}) Due.is("how, wrong by " + kind + ", " + k, x.how(0, k), -5);
        }
    }

    /** What was wrong with the PACKING that was asked for last says nothing of this one. */
    private static void howAfterAnother() {
        LargerWithin x = Due.with(Due.times(WIDE, 2) + SMALL);
        Due.row(x, 0, 0, 1, -1, 0);
        Due.row(x, 1, 0, 1, 0, 0);
        Due.is("nothing wrong", x.packing(0, 0), 0);
        Due.is("wrong", x.how(1, 0), -5);
        Due.is("again nothing wrong", x.how(0, 0), 8);
        Due.is("then the BOX", x.how(0, 1), 100);
        Due.is("wrong again", x.packing(1, 0), 2);
        Due.is("and again not", x.how(0, -1), 2);
        Due.is("LOST by the one", x.lost(1), 0x103);
        Due.is("by the other none", x.lost(0), 0);
    }

    // "each time the first ITEM that shall be IN a BOX, isn't yet, and IN which all is that shall be, is PUT"
    private static void howInOrder() {
        LargerWithin x = Due.with(Due.times(WIDE, 4) + Due.times(SMALL, 3));
        // 3 holds 0, 0 holds 9, 9's BOX is ready when 9 is in; 1 holds 8 and 2, 2 holds 10
        Due.row(x, 0, 0, 3, -1, 1, -1, 1, 0, 2);
        int[] acts = {108, 9, 300, 210, 102};
        for (int k = 0; k < 5; k++) Due.is("ACT " + k, x.how(0, k), acts[k]);
        x.numbers(1, 1, 5);
        for (int k = 0; k < 5; k++) x.write(1, k, acts[k]);
        Due.is("all can be done", x.judge(1, 0), -1);
        // 1 waits for 0, and 0 for 8
        Due.row(x, 0, 0, 1, 2, -1, -1, 0, -1, -1);
        int[] waiting = {8, 100, 201};
        for (int k = 0; k < 3; k++) Due.is("waiting " + k, x.how(0, k), waiting[k]);
        // empty BOXES are ready at once
        Due.row(x, 0, 0, 1, 2, 3, -1, -1, -1, -1);
        int[] nested = {100, 201, 302};
        for (int k = 0; k < 3; k++) Due.is("nested " + k, x.how(0, k), nested[k]);
        Due.row(x, 0, 0, -1, 0, 1, 2, 3, -1, -1);
        int[] other = {308, 203, 102, 1};
        for (int k = 0; k < 4; k++) Due.is("the other way " + k, x.how(0, k), other[k]);
    }

    private static void howOfTheFullStore() {
        LargerWithin x = Due.with(Due.times(WIDE, 8) + Due.times(SMALL, 16));
        x.numbers(0, 0, 24);
        for (int b = 0; b < 8; b++) x.write(0, b, b - 1);
        for (int t = 8; t < 24; t++) x.write(0, t, 7);
        Due.is("nothing wrong", x.packing(0, 0), 0);
        Due.is("all but one", x.how(0, -1), 23);
        Due.is("the first", x.how(0, 0), 708);
        Due.is("the last THING", x.how(0, 15), 723);
        Due.is("the innermost BOX", x.how(0, 16), 607);
        Due.is("the outermost but one", x.how(0, 22), 1);
        Due.is("no more", x.how(0, 23), -1);
        for (int t = 8; t < 24; t++) x.write(0, t, 0);
        Due.is("all into the outermost", x.how(0, -1), 23);
        Due.is("the empty innermost first", x.how(0, 0), 607);
        Due.is("THINGS last", x.how(0, 22), 23);
    }

    // "LOST by it: BOXES that are shut in themselves, and all ITEMS IN these, and so on."
    private static void lostOrNot() {
        LargerWithin x = Due.with(Due.times(WIDE, 4) + Due.times(SMALL, 2));
        lost(x, 0, -1, -1, -1, -1, -1, -1);
        lost(x, 0, 1, 2, 3, -1, 0, 0);
        lost(x, 1, 0, -1, -1, -1, -1, -1);
        lost(x, 0x301, 0, -1, -1, -1, 0, 0);
        lost(x, 3, 1, 0, -1, -1, -1, 2);
        lost(x, 7, 1, 0, 1, -1, -1, 3);
        lost(x, 0x30f, 1, 0, 1, 2, 3, 2);
        lost(x, 15, 1, 2, 3, 0, -1, -1);
        lost(x, 8, -1, -1, -1, 3, 0, 1);
        lost(x, 15, 1, 0, 3, 2, -1, -1);
        LargerWithin full = Due.with(Due.times(WIDE, 8) + Due.times(SMALL, 16));
        long[] all = new long[24];
        for (int b = 0; b < 8; b++) all[b] = (b + 1) % 8;
        lost(full, 0xffffff, all);
        all[7] = 7;
        lost(full, 0xffffff, all);
        all[7] = -1;
        lost(full, 0, all);
        all[0] = 0;
        lost(full, 0xffff01, all);
    }

    // "-3: a number that is no BOX, nor NONE"
    private static void lostRefused() {
        LargerWithin x = Due.with(Due.times(WIDE, 2) + SMALL);
        lost(x, -3, 2, -1, -1);
        lost(x, -3, 0, -1, 2);
        lost(x, -3, 0, -2, -1);
        lost(x, 0, 1, -1, 1);
        LargerWithin eight = Due.with(Due.times(WIDE, 8));
        lost(eight, -3, -1, -1, -1, -1, -1, -1, -1, 8);
        lost(eight, 128, -1, -1, -1, -1, -1, -1, -1, 7);
        LargerWithin things = Due.with(SMALL);
        lost(things, -3, 0);
        lost(things, 0, -1);
    }
}
