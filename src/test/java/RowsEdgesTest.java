/** The edges that the document names for ROWS OF NUMBERS, IMAGES and count(): promises 37 to 42. */
public final class RowsEdgesTest {
    private static final int MIN = Integer.MIN_VALUE;
    private static final int MAX = Integer.MAX_VALUE;
    private static final String WIDE = Due.box(1, 1, 9, 64, 1, 999);
    private static final String SMALL = Due.thing(1, 1, 1, 1);
    private static final String FULL = Due.times(WIDE, 8) + Due.times(SMALL, 16);

    public static void main(String[] args) {
        missingAtFirst();
        whichRowsAndSorts();
        howManyNumbers();
        allAreZero();
        inPlaceOfAnother();
        cutToItsSort();
        cutAsItIsThere();
        whichNumber();
        rowsStayApart();
        copyPlaces();
        copyOfAll();
        copyIntoEachSort();
        whichImages();
        imageOfNothing();
        imageOfAll();
        imagesStayApart();
        imageWithoutTheRest();
        restoreRefused();
        countWhat();
        countOfAll();
        Due.end("RowsEdgesTest");
    }

    // "ROWS OF NUMBERS 0 to 3 are MISSING at first"
    private static void missingAtFirst() {
        LargerWithin x = Due.with(SMALL);
        for (int row = 0; row < 4; row++) {
            Due.is("write", x.write(row, 0, 1), -6);
            Due.is("write, no number", x.write(row, -1, 1), -6);
            Due.is("copy", x.copy(row), -6);
            Due.is("judge", x.judge(row, 0), -6);
            Due.is("perform", x.perform(row), -6);
            Due.is("packing", x.packing(row, 0), -6);
            Due.is("how", x.how(row, 0), -6);
            Due.is("lost", x.lost(row), -6);
            Due.is("voyage", x.voyage(row), -6);
            Due.is("voyages", x.voyages(row, 0), -6);
        }
        Due.is("refused numbers() leaves it MISSING", x.numbers(0, 0, 41), -3);
        Due.is("still MISSING", x.write(0, 0, 1), -6);
        Due.is("by a sort that is none, too", x.numbers(0, 4, 1), -2);
        Due.is("MISSING as ever", x.perform(0), -6);
    }

    // "-2: no such ROW, sort; -3 .."
    private static void whichRowsAndSorts() {
        LargerWithin x = new LargerWithin();
        for (int row : new int[] {-1, 4, 5, MIN, MAX}) {
            Due.is("numbers " + row, x.numbers(row, 0, 1), -2);
            Due.is("numbers " + row + " ahead of n", x.numbers(row, 9, 41), -2);
            Due.is("write " + row, x.write(row, 0, 1), -2);
            Due.is("write " + row + " ahead of i", x.write(row, 40, 1), -2);
            Due.is("copy " + row, x.copy(row), -2);
        }
        for (int sort : new int[] {-1, 4, 5, MIN, MAX}) {
            Due.is("sort " + sort, x.numbers(0, sort, 1), -2);
            Due.is("sort " + sort + " ahead of n", x.numbers(0, sort, -1), -2);
        }
        for (int row = 0; row < 4; row++) {
            for (int sort = 0; sort < 4; sort++) Due.is("ROW " + row + " of sort " + sort, x.numbers(row, sort, 1), 0);
        }
    }

    // "0 to 40 numbers", "-3, and the ROW stays: n is below 0 or above 40"
    private static void howManyNumbers() {
        LargerWithin x = new LargerWithin();
        for (int n = 0; n <= 40; n++) {
            Due.is("n " + n, x.numbers(2, 1, n), 0);
            Due.is("the last of " + n, x.write(2, n - 1, 7), n == 0 ? -7 : 7);
            Due.is("behind the last of " + n, x.write(2, n, 7), -7);
        }
        for (int n : new int[] {-1, 41, 42, MIN, MAX}) {
            Due.is("n " + n, x.numbers(2, 0, n), -3);
            Due.is("its sort stays at n " + n, x.write(2, 39, 300), 300);
            Due.is("how many stays at n " + n, x.write(2, 40, 1), -7);
        }
    }

    // "all 0"
    private static void allAreZero() {
        LargerWithin x = Due.with(Due.times(WIDE, 2));
        for (int sort = 0; sort < 4; sort++) {
            x.numbers(0, sort, 2);
            Due.is("both IN BOX 0", x.packing(0, 0), 2);
            Due.is("LOST by it", x.lost(0), 3);
            x.write(0, 0, -1);
            x.write(0, 1, -1);
            Due.is("other numbers", x.packing(0, 0), 0);
        }
        x.numbers(0, 3, 40);
        Due.is("ACT 0 can't be", x.judge(0, 1), -8);
    }

    // "(in place of another one)"
    private static void inPlaceOfAnother() {
        LargerWithin x = new LargerWithin();
        x.numbers(0, 3, 40);
        x.write(0, 5, Long.MAX_VALUE);
        Due.is("shorter", x.numbers(0, 0, 5), 0);
        Due.is("no such number now", x.write(0, 5, 1), -7);
        Due.is("of the new sort", x.write(0, 4, 200), -56);
        Due.is("longer again", x.numbers(0, 2, 40), 0);
        Due.is("of another sort", x.write(0, 4, 1L << 31), MIN);
        LargerWithin y = Due.with(Due.times(SMALL, 2));
        Due.row(y, 0, 0, 9, 9);
        y.numbers(0, 0, 2);
        Due.is("what stood there is gone: 0, not 9", y.packing(0, 1), 8);
        Due.row(y, 0, 0, -1, 9);
        y.numbers(0, 0, 0);
        y.numbers(0, 0, 2);
        y.write(0, 0, -1);
        Due.is("what stood behind is gone, too", y.packing(0, 0), 1);
        LargerWithin z = Due.with(Due.times(WIDE, 2));
        Due.row(z, 0, 0, -1, 7);
        z.numbers(0, 0, 1);
        z.numbers(0, 0, 2);
        z.write(0, 0, -1);
        Due.is("a 0 is a BOX there", z.packing(0, 0), 0);
    }

    // "numbers of 8 bits (sort 0), 16 (1), 32 (2), 64 (3)", "v, cut to its sort: as it is there"
    private static void cutToItsSort() {
        LargerWithin x = new LargerWithin();
        int[] bits = {8, 16, 32, 64};
        for (int sort = 0; sort < 4; sort++) {
            x.numbers(sort, sort, 1);
            long half = bits[sort] == 64 ? Long.MIN_VALUE : 1L << bits[sort] - 1;
            long top = half - 1;
            Due.is("greatest of sort " + sort, x.write(sort, 0, top), top);
            Due.is("least of sort " + sort, x.write(sort, 0, -top - 1), -top - 1);
            Due.is("above the greatest of sort " + sort, x.write(sort, 0, top + 1), -top - 1);
            Due.is("below the least of sort " + sort, x.write(sort, 0, -top - 2), top);
            Due.is("-1 of sort " + sort, x.write(sort, 0, -1), -1);
            Due.is("0 of sort " + sort, x.write(sort, 0, 0), 0);
        }
        Due.is("256 of 8 bits", x.write(0, 0, 256), 0);
        Due.is("255 of 8 bits", x.write(0, 0, 255), -1);
        Due.is("65536 of 16 bits", x.write(1, 0, 65536), 0);
        Due.is("65535 of 16 bits", x.write(1, 0, 65535), -1);
        Due.is("2 to the power of 32 of 32 bits", x.write(2, 0, 1L << 32), 0);
        Due.is("one less of 32 bits", x.write(2, 0, (1L << 32) - 1), -1);
        Due.is("2 to the power of 32 of 64 bits", x.write(3, 0, 1L << 32), 1L << 32);
        long[] odd = {Long.MIN_VALUE, Long.MAX_VALUE, 0x123456789abcdef0L, -0x123456789abcdef0L};
        for (long v : odd) {
            Due.is("8 bits of " + v, x.write(0, 0, v), (byte) v);
            Due.is("16 bits of " + v, x.write(1, 0, v), (short) v);
            Due.is("32 bits of " + v, x.write(2, 0, v), (int) v);
            Due.is("64 bits of " + v, x.write(3, 0, v), v);
        }
    }

    private static void cutAsItIsThere() {
        LargerWithin x = Due.with(WIDE + SMALL);
        Due.row(x, 0, 0, 255, 256);
        Due.is("-1 and 0", x.packing(0, 0), 0);
        Due.is("one ACT", x.how(0, 0), 8);
        Due.row(x, 1, 1, 255, 256);
        Due.is("not so of 16 bits", x.packing(1, 0), 1);
        Due.row(x, 1, 1, 65535, 65536);
        Due.is("but so", x.packing(1, 0), 0);
    }

    // "-7" of write()
    private static void whichNumber() {
        LargerWithin x = new LargerWithin();
        x.numbers(0, 3, 3);
        for (int i : new int[] {-1, 3, 4, 39, 40, 41, MIN, MAX}) Due.is("number " + i, x.write(0, i, 5), -7);
        for (int i = 0; i < 3; i++) Due.is("number " + i, x.write(0, i, 5), 5);
        x.numbers(0, 3, 0);
        Due.is("none", x.write(0, 0, 5), -7);
        x.numbers(0, 3, 40);
        Due.is("the fortieth", x.write(0, 39, 5), 5);
        Due.is("the one behind it", x.write(0, 40, 5), -7);
        LargerWithin y = Due.with(Due.times(SMALL, 2));
        Due.row(y, 0, 0, -1, -1);
        y.write(0, 2, 5);
        y.write(0, -1, 5);
        Due.is("refused: all stays", y.packing(0, 0), 0);
    }

    private static void rowsStayApart() {
        LargerWithin x = Due.with(SMALL);
        for (int row = 0; row < 4; row++) x.numbers(row, row, 1);
        for (int row = 0; row < 4; row++) x.write(row, 0, row == 2 ? -1 : 5);
        for (int row = 0; row < 4; row++) Due.is("ROW " + row, x.packing(row, 0), row == 2 ? 0 : 1);
        x.numbers(2, 0, 2);
        Due.is("ROW 1 has one number", x.write(1, 1, 5), -7);
        Due.is("ROW 3 has one number", x.write(3, 1, 5), -7);
        Due.is("ROW 2 has two", x.write(2, 1, 5), 5);
    }

    // "-7: it has not so many places (nothing comes)"
    private static void copyPlaces() {
        LargerWithin x = Due.with(WIDE + Due.times(SMALL, 2));
        x.put(8, 0);
        Due.row(x, 0, 0, 5, 5);
        Due.is("two places for three", x.copy(0), -7);
        Due.is("nothing comes", x.judge(0, 1), -2);
        Due.row(x, 0, 0, 5, 5, 5);
        Due.is("three places", x.copy(0), 3);
        Due.is("as it lies", x.packing(0, 0), 0);
        Due.is("one ACT", x.how(0, -1), 1);
        Due.row(x, 0, 1, 5, 5, 5, 1008);
        Due.is("a place more", x.copy(0), 3);
        x.write(0, 0, 1008);
        x.write(0, 1, 8);
        x.write(0, 2, 9);
        Due.is("the fourth stays: taken, put, put, not AT HAND", x.judge(0, 0), 3);
        Due.is("why: it is below", x.judge(0, 1), -5);
        x.numbers(0, 0, 40);
        Due.is("forty places", x.copy(0), 3);
        Due.is("not a PACKING then", x.packing(0, 0), -7);
        x.numbers(0, 0, 0);
        Due.is("no places", x.copy(0), -7);
        LargerWithin none = new LargerWithin();
        none.numbers(0, 0, 0);
        Due.is("nothing to come", none.copy(0), 0);
        none.numbers(0, 0, 40);
        Due.is("nothing to come, forty places", none.copy(0), 0);
    }

    private static void copyOfAll() {
        LargerWithin x = Due.with(FULL);
        x.numbers(0, 0, 23);
        Due.is("23 places for 24", x.copy(0), -7);
        x.numbers(0, 0, 24);
        Due.is("24 places", x.copy(0), 24);
        Due.is("all on THE FLOOR", x.how(0, -1), 0);
        for (int t = 8; t < 24; t++) x.put(t, t % 8);
        for (int b = 7; b > 0; b--) x.put(b, 0);
        Due.is("copied again", x.copy(0), 24);
        Due.is("nothing wrong", x.packing(0, 0), 0);
        int packed = x.count(3);
        Due.is("as many ACTS", x.how(0, -1), packed);
        LargerWithin y = Due.with(FULL);
        y.numbers(0, 1, packed);
        for (int k = 0; k < packed; k++) y.write(0, k, x.how(0, k));
        Due.is("they can all be done", y.perform(0), packed);
        for (int i = 0; i < 24; i++) Due.is("where " + i + " is", y.lies(i, 0), x.lies(i, 0));
    }

    private static void copyIntoEachSort() {
        for (int sort = 0; sort < 4; sort++) {
            LargerWithin x = Due.with(Due.times(WIDE, 8) + SMALL);
            x.put(8, 7);
            x.put(7, 6);
            x.numbers(sort, sort, 9);
            Due.is("sort " + sort, x.copy(sort), 9);
            Due.is("nothing wrong by sort " + sort, x.packing(sort, 0), 0);
            Due.is("first ACT by sort " + sort, x.how(sort, 0), 708);
            Due.is("second ACT by sort " + sort, x.how(sort, 1), 607);
            Due.is("no third by sort " + sort, x.how(sort, 2), -1);
        }
    }

    // "IMAGES 0 to 1", "-2"
    private static void whichImages() {
        LargerWithin x = Due.with(SMALL);
        for (int i : new int[] {-1, 2, 3, MIN, MAX}) {
            Due.is("image " + i, x.image(i), -2);
            Due.is("restore " + i, x.restore(i), -2);
        }
        for (int i = 0; i < 2; i++) {
            Due.is("none at first " + i, x.restore(i), -5);
            Due.is("made " + i, x.image(i), 0);
            Due.is("as it was " + i, x.restore(i), 0);
        }
    }

    private static void imageOfNothing() {
        LargerWithin x = new LargerWithin();
        x.image(0);
        Due.read(x, FULL);
        x.put(8, 0);
        Due.is("none was made", x.restore(1), -5);
        Due.is("all stays", x.count(3), 1);
        Due.is("nothing, as it was", x.restore(0), 0);
        for (int what = 0; what < 6; what++) Due.is("count " + what, x.count(what), 0);
        Due.is("no BOX", x.item(0, 0), -2);
        Due.is("no THING", x.lies(8, 0), -2);
    }

    // "All that is in an IMAGE is as it was"
    private static void imageOfAll() {
        LargerWithin x = Due.with(Due.box(9, 8, 7, 6, 5, 40) + Due.box(2, 1, 9, 64, 1, 99) + Due.thing(4, 3, 2, 1) + Due.thing(5, 4, 3, 2));
        x.put(9, 0);
        x.put(8, 0);
        x.put(1, 0);
        x.image(1);
        Due.read(x, FULL);
        Due.is("all on THE FLOOR", x.count(3), 0);
        Due.is("back", x.restore(1), 0);
        Due.is("BOXES", x.count(0), 2);
        Due.is("THINGS", x.count(1), 2);
        Due.is("no third BOX", x.item(2, 0), -2);
        int[] box = {9, 8, 5, 0, 7, 6, 40};
        for (int what = 0; what < 7; what++) Due.is("BOX 0, " + what, x.item(0, what), box[what]);
        int[] order = {9, 8, 1};
        for (int k = 0; k < 3; k++) Due.is("lies at " + k, x.box(0, 10 + k), order[k]);
        Due.is("HALVED", x.box(0, 3), 1);
        x.empty();
        Due.is("back again", x.restore(1), 0);
        Due.is("three again", x.count(3), 3);
        x.take(1);
        x.image(1);
        x.empty();
        x.restore(1);
        Due.is("a later IMAGE in its place", x.count(3), 2);
    }

    private static void imagesStayApart() {
        LargerWithin x = Due.with(FULL);
        x.image(0);
        x.put(8, 0);
        x.image(1);
        x.put(9, 0);
        Due.is("one", x.restore(1), 0);
        Due.is("one of it", x.count(3), 1);
        Due.is("the other", x.restore(0), 0);
        Due.is("none of it", x.count(3), 0);
        x.put(10, 3);
        Due.is("the first again", x.restore(1), 0);
        Due.is("where it was", x.lies(8, 0), 0);
        Due.is("what came later is out", x.lies(10, 0), -1);
        x.image(0);
        x.empty();
        x.restore(0);
        Due.is("an IMAGE of what was restored", x.lies(8, 0), 0);
    }

    // "IMAGES .. THE STORE, and where all lies": no TAPE, no ROWS, no FAULT
    private static void imageWithoutTheRest() {
        LargerWithin x = Due.with(WIDE + SMALL);
        Due.row(x, 0, 0, -1, 5);
        x.image(0);
        Due.feed(x, "thing");
        Due.row(x, 0, 0, -1, 0);
        Due.row(x, 1, 0, 8);
        x.restore(0);
        Due.is("THE TAPE stays", x.count(4), 20);
        Due.is("ROW 0 stays", x.packing(0, 0), 0);
        Due.is("ROW 1 stays", x.judge(1, 0), -1);
        Due.is("it is read", x.store(5), -32);
        x.restore(0);
        Due.is("the FAULT stays", x.fault(0), 2);
        Due.is("its place stays", x.fault(1), 5);
    }

    // "-5: none was made", "change nothing"
    private static void restoreRefused() {
        LargerWithin x = Due.with(FULL);
        x.put(8, 0);
        Due.is("none was made", x.restore(0), -5);
        Due.is("it stays where it lies", x.lies(8, 0), 0);
        Due.is("no such IMAGE to make", x.image(2), -2);
        Due.is("still none was made", x.restore(1), -5);
        Due.is("all stays", x.count(2), 24);
    }

    // "NONE for others."
    private static void countWhat() {
        LargerWithin x = Due.with(FULL);
        for (int what : new int[] {-1, -2, 6, 7, 10, 32, MIN, MAX}) Due.is("count " + what, x.count(what), -1);
    }

    private static void countOfAll() {
        LargerWithin x = Due.with(Due.times(WIDE, 2) + Due.thing(1, 1, 1, 99) + Due.thing(1, 1, 1, 0) + Due.thing(1, 1, 1, 7));
        int[] first = {2, 3, 5, 0, 0, 0};
        for (int what = 0; what < 6; what++) Due.is("first: count " + what, x.count(what), first[what]);
        x.put(9, 0);
        Due.is("worth nothing", x.count(5), 0);
        Due.is("one IN a BOX", x.count(3), 1);
        x.put(8, 0);
        x.put(0, 1);
        Due.is("worth, deeper too", x.count(5), 99);
        Due.is("the BOX, too", x.count(3), 3);
        Due.feed(x, "  ");
        Due.is("bytes", x.count(4), 20);
        x.put(10, 1);
        Due.is("all worth", x.count(5), 106);
        Due.is("all but one", x.count(3), 4);
        LargerWithin most = Due.with(Due.box(99, 1, 9, 64, 1, 9999) + Due.times(Due.thing(1, 1, 1, 99), 16));
        for (int t = 8; t < 24; t++) most.put(t, 0);
        Due.is("the greatest worth", most.count(5), 16 * 99);
    }
}
