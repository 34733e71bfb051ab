import java.util.ArrayList;
import java.util.List;
import java.util.function.Function;

/**
 * "Refused calls answer by a code and change nothing": each such call is done on an object of its own,
 * and what can be asked then is compared with an object for which it was not done. Calls that tell
 * something are compared so, too: none of them may change anything.
 */
public final class RefusedTest {
    private static final int MIN = Integer.MIN_VALUE;
    private static final int MAX = Integer.MAX_VALUE;
    private static final List<Asked> ASKED = new ArrayList<>();

    private record Asked(String name, int due, Function<LargerWithin, Number> call) { }

    public static void main(String[] args) {
        refusedByTheStore();
        refusedWhereAllLies();
        refusedPackings();
        refusedSearches();
        refusedChests();
        refusedRowsAndImages();
        String due = all(made());
        for (Asked asked : ASKED) {
            LargerWithin x = made();
            Due.is(asked.name, asked.call.apply(x).longValue(), asked.due);
            Due.isTrue("changed nothing: " + asked.name, all(x).equals(due));
        }
        tellingCalls(due);
        aFaultyTextChangesOnlyTheTape();
        Due.end("RefusedTest");
    }

    private static void add(String name, int due, Function<LargerWithin, Number> call) {
        ASKED.add(new Asked(name + ", due " + due, due, call));
    }

    /** Three BOXES, five THINGS; 8 and 9 IN 0, 0 IN 1, 10 upon it; 2, 11 and 12 on THE FLOOR. */
    private static LargerWithin made() {
        LargerWithin x = Due.with(Due.box(4, 4, 5, 20, 2, 30) + Due.box(9, 6, 6, 20, 3, 60) + Due.box(3, 7, 2, 1, 4, 4)
            + Due.thing(5, 5, 6, 7) + Due.thing(4, 3, 2, 1) + Due.thing(2, 2, 2, 2) + Due.thing(6, 2, 5, 9) + Due.thing(4, 1, 1, 0));
        Due.read(x, "thing 0");
        x.image(0);
        x.put(8, 0);
        x.put(9, 0);
        x.put(0, 1);
        x.put(10, 1);
        x.image(1);
        Due.row(x, 0, 0, 1, -1, -1, 0, 0, 1, -1, -1);
        Due.row(x, 1, 1, 1010, 1009, 209, 1000);
        Due.row(x, 2, 3, 8, 0, 11);
        Due.feed(x, "box 1 by 1 lid 1 times 1 weight 1 bears 1;thing 1 by");
        return x;
    }

    private static void note(StringBuilder text, long answer) { text.append(answer).append(' '); }

    private static void whereAllLies(StringBuilder text, LargerWithin x) {
        for (int what = 0; what < 6; what++) note(text, x.count(what));
        for (int i : new int[] {0, 1, 2, 8, 9, 10, 11, 12}) for (int what = 0; what < 4; what++) note(text, x.lies(i, what));
        for (int b = 0; b < 3; b++) for (int what : new int[] {0, 1, 2, 3, 4, 10, 11, 12}) note(text, x.box(b, what));
    }

    /** All that can be asked, in some 300 calls; THE TAPE is read and the IMAGES are restored at the end. */
    private static String all(LargerWithin x) {
        StringBuilder text = new StringBuilder();
        note(text, x.fault(0));
        note(text, x.fault(1));
        for (int i : new int[] {0, 1, 2, 8, 9, 10, 11, 12}) for (int what = 0; what < 7; what++) note(text, x.item(i, what));
        whereAllLies(text, x);
        for (int row = 0; row < 4; row++) {
            for (int what = 0; what < 3; what++) note(text, x.judge(row, what));
            for (int what = 0; what < 2; what++) note(text, x.packing(row, what));
            for (int k = -1; k < 4; k++) note(text, x.how(row, k));
            note(text, x.lost(row));
            note(text, x.voyage(row));
            note(text, x.voyages(row, 0));
        }
        int tape = x.count(4);
        note(text, x.store(tape > 42 ? 42 : tape));
        whereAllLies(text, x);
        for (int image = 0; image < 2; image++) {
            note(text, x.restore(image));
            whereAllLies(text, x);
        }
        // what is left of the numbers of each ROW: one behind its last
        for (int row = 0; row < 4; row++) for (int i : new int[] {2, 3, 4, 7, 8}) note(text, x.write(row, i, 300));
        return text.toString();
    }

    private static void refusedByTheStore() {
        for (int n : new int[] {-1, 61, 900, 901, MIN, MAX}) add("store " + n, -3, x -> x.store(n));
        for (int i : new int[] {-1, 3, 7, 13, 23, 24, MIN, MAX}) add("item " + i, -2, x -> x.item(i, 0));
        for (int what : new int[] {-1, 7, MIN, MAX}) add("item, what " + what, -2, x -> x.item(0, what));
        for (int what : new int[] {-1, 2, MIN, MAX}) add("fault " + what, -1, x -> x.fault(what));
    }

    private static void refusedWhereAllLies() {
        for (int i : new int[] {-1, 3, 7, 13, 23, 24, 32, MIN, MAX}) {
            add("lies " + i, -2, x -> x.lies(i, 0));
            add("box " + i, -2, x -> x.box(i, 0));
            add("may " + i, -2, x -> x.may(i, 2));
            add("put " + i, -2, x -> x.put(i, 2));
            add("put into " + i, -2, x -> x.put(11, i));
            add("take " + i, -2, x -> x.take(i));
            add("over " + i, -2, x -> x.over(i, 0));
        }
        add("box, not so many", -7, x -> x.box(1, 12));
        add("put what is not on THE FLOOR", -5, x -> x.put(8, 1));
        add("put into what is not AT HAND", -5, x -> x.put(11, 0));
        add("put in itself", -8, x -> x.put(2, 2));
        add("put through the LID", -9, x -> x.put(2, 1));
        add("put what is too heavy", -10, x -> x.put(11, 2));
        add("put what has no room", -11, x -> x.put(12, 2));
        add("take from THE FLOOR", -5, x -> x.take(11));
        add("take from below", -5, x -> x.take(0));
        add("take from deep below", -5, x -> x.take(8));
        for (int row : new int[] {-1, 4, MIN, MAX}) {
            add("judge " + row, -2, x -> x.judge(row, 0));
            add("perform " + row, -2, x -> x.perform(row));
        }
        add("judge, what 3", -2, x -> x.judge(1, 3));
        add("judge a MISSING one", -6, x -> x.judge(3, 0));
        add("perform a MISSING one", -6, x -> x.perform(3));
        add("perform what can't be from its first on", 0, x -> x.perform(2));
    }

    private static void refusedPackings() {
        for (int row : new int[] {-1, 4, MIN, MAX}) {
            add("packing " + row, -2, x -> x.packing(row, 0));
            add("how " + row, -2, x -> x.how(row, 0));
            add("lost " + row, -2, x -> x.lost(row));
        }
        add("packing, what 2", -2, x -> x.packing(0, 2));
        add("packing of a MISSING one", -6, x -> x.packing(3, 0));
        add("packing of too few", -7, x -> x.packing(1, 0));
        add("how of a MISSING one", -6, x -> x.how(3, 0));
        add("how of too few", -7, x -> x.how(1, 0));
        add("lost by a MISSING one", -6, x -> x.lost(3));
        add("lost by too few", -7, x -> x.lost(1));
    }

    private static void refusedSearches() {
        add("most, BOX", -2, x -> x.most(3, 0x900, 0));
        add("most, what", -2, x -> x.most(0, 0x900, 2));
        add("most, set", -3, x -> x.most(0, MIN, 0));
        add("household, what", -2, x -> x.household(0xf00, false, 3));
        add("household, set", -3, x -> x.household(1, true, 0));
        add("holds, no ITEM of the set", -2, x -> x.holds(0x100, false, 9));
        add("holds, set", -3, x -> x.holds(0x101, false, 8));
        add("shut, BOX", -2, x -> x.shut(3, 0x900));
        add("shut, set", -3, x -> x.shut(1, 2));
        add("shutIn, BOX", -2, x -> x.shutIn(3, 0x900, 8));
        add("shutIn, ITEM", -2, x -> x.shutIn(1, 0x900, 9));
        add("shutIn, set", -3, x -> x.shutIn(1, 0x902, 8));
        add("even, both one", -2, x -> x.even(1, 1, 0x900, 0));
        add("even, set", -3, x -> x.even(0, 1, 0x901, 0));
        add("lightestFor", -2, x -> x.lightestFor(13));
        add("nest, not so many", -1, x -> x.nest(8));
        add("voyage, ROW", -2, x -> x.voyage(4));
        add("voyage, MISSING", -6, x -> x.voyage(3));
        add("voyage, no ITEM", -3, x -> x.voyage(1));
        add("voyages, ROW", -2, x -> x.voyages(-1, 0));
        add("voyages, what", -2, x -> x.voyages(2, 15));
        add("voyages, MISSING", -6, x -> x.voyages(3, 0));
        add("voyages, no ITEM", -3, x -> x.voyages(0, 0));
    }

    private static void refusedChests() {
        add("chest, BOX", -2, x -> x.chest(3, 0x900, 1, 5));
        add("chest, set", -3, x -> x.chest(0, 0x901, 1, 5));
        add("chest, n", -3, x -> x.chest(0, 0x900, 13, 5));
        add("chest, w", -3, x -> x.chest(0, 0x900, 1, -1));
        add("sure, BOX", -2, x -> x.sure(3, 0x900, 1, 5, true));
        add("sure, n", -3, x -> x.sure(0, 0x900, -1, 5, false));
        add("look, BOX", -2, x -> x.look(3, 0x900, 1, 5));
        add("look, w", -3, x -> x.look(0, 0x900, 1, MIN));
        add("looks, BOX", -2, x -> x.looks(3, 0x900, 1, 5));
        add("looks, set", -3, x -> x.looks(0, MIN, 1, 5));
        add("sounded, BOX", -2, x -> x.sounded(3, 0x900, 5, 5));
        add("sounded, f", -3, x -> x.sounded(0, 0x900, 5, -1));
        add("needs", -2, x -> x.needs(3));
        add("deepest", -2, x -> x.deepest(-1));
        add("room", -3, x -> x.room(100, 1, 0));
        for (int times : new int[] {-1, 0, 61, MIN, MAX}) add("carriers " + times, -3, x -> x.carriers(9, times));
    }

    private static void refusedRowsAndImages() {
        for (int row : new int[] {-1, 4, MIN, MAX}) {
            add("numbers " + row, -2, x -> x.numbers(row, 0, 1));
            add("write " + row, -2, x -> x.write(row, 0, 1));
            add("copy " + row, -2, x -> x.copy(row));
        }
        for (int row = 0; row < 4; row++) {
            int at = row;
            add("numbers " + row + ", sort 4", -2, x -> x.numbers(at, 4, 1));
            add("numbers " + row + ", sort -1", -2, x -> x.numbers(at, -1, 1));
            add("numbers " + row + ", 41", -3, x -> x.numbers(at, 0, 41));
            add("numbers " + row + ", -1", -3, x -> x.numbers(at, 0, -1));
            add("write " + row + " at -1", row == 3 ? -6 : -7, x -> x.write(at, -1, 1));
            add("write " + row + " at 40", row == 3 ? -6 : -7, x -> x.write(at, 40, 1));
        }
        add("write behind the last", -7, x -> x.write(0, 8, 1));
        add("copy into a MISSING one", -6, x -> x.copy(3));
        add("copy into too few", -7, x -> x.copy(1));
        add("copy into too few of 64 bits", -7, x -> x.copy(2));
        for (int i : new int[] {-1, 2, MIN, MAX}) {
            add("image " + i, -2, x -> x.image(i));
            add("restore " + i, -2, x -> x.restore(i));
        }
        for (int what : new int[] {-1, 6, MIN, MAX}) add("count " + what, -1, x -> x.count(what));
    }

    /** What is as if so, or sought, leaves all where it lies. */
    private static void tellingCalls(String due) {
        LargerWithin x = made();
        int sum = x.may(11, 1) + x.judge(1, 0) + x.judge(1, 1) + x.judge(1, 2) + x.packing(0, 0) + x.how(0, 1) + x.lost(0);
        sum += x.most(1, 0xf07, 0) + x.most(0, 0xf00, 1) + x.household(0xf00, false, 0) + x.household(0xf00, true, 2);
        sum += x.holds(0xf00, false, 8) + x.shut(1, 0x301) + x.shutIn(1, 0x301, 8) + x.even(0, 1, 0xf00, 0);
        sum += x.lightestFor(8) + x.lightestFor(0) + x.nest(-1) + x.nest(0) + x.voyage(2) + x.voyages(2, 0) + x.voyages(2, 10);
        sum += x.chest(0, 0xf00, 2, 8) + x.sure(0, 0xf00, 2, 8, true) + x.look(0, 0xf00, 1, 2) + x.looks(0, 0xf00, 1, 2);
        sum += x.sounded(1, 0xf00, 2, 2) + x.needs(0) + x.room(9, 9, 3) + x.deepest(0) + x.over(8, 0) + x.box(1, 10) + x.lies(8, 2);
        Due.isTrue("told", sum != MAX);
        Due.isTrue("calls that tell change nothing", all(x).equals(due));
    }

    private static void aFaultyTextChangesOnlyTheTape() {
        for (String wrong : new String[] {"!", "box", "thing 0", Due.times("thing 1 by 1 weight 1 worth 1;", 16) + "thing"}) {
            LargerWithin x = made();
            LargerWithin y = made();
            x.store(0);
            y.store(0);
            x.restore(1);
            y.restore(1);
            Due.isTrue("a FAULT", Due.read(x, wrong) < -30);
            Due.is("a FAULT is told", x.fault(0) > 0 ? 1 : 0, 1);
            // the same FAULT on both, so that what fault() tells is alike
            Due.read(y, "thing 0");
            String[] one = all(x).split(" ", 3);
            String[] other = all(y).split(" ", 3);
            Due.isTrue("all else stays: " + wrong, one[2].equals(other[2]));
        }
    }
}
