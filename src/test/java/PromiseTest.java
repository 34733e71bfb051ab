/** One part for each promise of the document: ordinary inputs, the edges it names, wrong inputs. */
public final class PromiseTest {
    private static final String HOME = "box 10 by 10 lid 9 times 4 weight 5 bears 100;"
        + "box 8 by 8 lid 6 times 2 weight 3 bears 20;"
        + "thing 7 by 5 weight 4 worth 10;thing 20 by 9 weight 30 worth 7;thing 3 by 2 weight 1 worth 2;";
    /** Four boxes that all go into one another, and four things that go anywhere. */
    private static final String ROOMY = Due.times("box 9 by 9 lid 9 times 64 weight 2 bears 999;", 4)
        + Due.times("thing 5 by 5 weight 3 worth 4;", 4);
    private static final int MIN = Integer.MIN_VALUE;
    private static final int MAX = Integer.MAX_VALUE;

    public static void main(String[] args) {
        theStore();
        whereAllLies();
        toldPackings();
        sought();
        chests();
        rowsAndImages();
        Due.end("PromiseTest");
    }

    private static void theStore() {
        p01();
        p02();
        p03();
        p03Faults();
        p03Bounds();
        p04();
        p05();
    }

    private static void whereAllLies() {
        p06();
        p07();
        p08();
        p08Order();
        p09();
        p10();
        p11();
        p12();
        p13();
        p14();
    }

    private static void toldPackings() {
        p15();
        p15Order();
        p16();
        p17();
    }

    private static void sought() {
        p18();
        p19();
        p20();
        p21();
        p22();
        p23();
        p24();
        p25();
        p26();
        p27();
    }

    private static void chests() {
        p28();
        p29();
        p30();
        p31();
        p32();
        p33();
        p34();
        p35();
        p36();
    }

    private static void rowsAndImages() {
        p37();
        p38();
        p39();
        p40and41();
        p42();
    }

    private static void p01() {
        LargerWithin x = new LargerWithin();
        for (int what = 0; what < 6; what++) Due.is("1 count " + what, x.count(what), 0);
        Due.is("1 fault", x.fault(0), 0);
        Due.is("1 place", x.fault(1), -1);
        Due.is("1 row", x.perform(0), -6);
        Due.is("1 image", x.restore(0), -5);
        Due.is("1 other image", x.restore(1), -5);
        Due.is("1 NONE", LargerWithin.NONE, -1);
    }

    private static void p02() {
        LargerWithin x = new LargerWithin();
        for (int k = 1; k <= 45; k++) Due.is("2 feed " + k, x.feed(0x20202020, 0x20202020, 0x20202020, 0x20202020, 0x20202020), 20 * k);
        Due.is("2 too much", x.feed(0, 0, 0, 0, 0), -5);
        Due.is("2 stays", x.count(4), 900);
        Due.is("2 all of it is read", x.store(900), 0);
        Due.is("2 empty then", x.count(4), 0);
        // "thing 1 by 2 weight " "3 worth 4;"
        Due.is("2 order of bytes", x.feed(0x7468696e, 0x67203120, 0x62792032, 0x20776569, 0x67687420), 20);
        Due.is("2 and on", x.feed(0x3320776f, 0x72746820, 0x343b2020, 0x20202020, 0xffffffff), 40);
        Due.is("2 read", x.store(36), 1);
        Due.is("2 worth", x.item(8, 3), 4);
    }

    private static void p03() {
        LargerWithin x = new LargerWithin();
        Due.is("3 lines", Due.read(x, HOME), 5);
        Due.is("3 tape", x.count(4), 0);
        x.put(8, 0);
        Due.feed(x, "thing 1 by 1 weight 1 worth 1;");
        Due.is("3 n below 0", x.store(-1), -3);
        Due.is("3 n above", x.store(41), -3);
        Due.is("3 n least", x.store(MIN), -3);
        Due.is("3 the tape stays", x.count(4), 40);
        Due.is("3 a part is a fault", x.store(29), -32);
        Due.is("3 then the tape is empty", x.count(4), 0);
        Due.is("3 all stays", x.count(2), 5);
        Due.is("3 where it was", x.lies(8, 0), 0);
        Due.is("3 new text", Due.read(x, "thing 1 by 1 weight 1 worth 1;box 1 by 1 lid 1 times 1 weight 1 bears 1;"), 2);
        Due.is("3 all on the floor", x.count(3), 0);
        Due.is("3 nothing", x.store(0), 0);
        Due.is("3 no items", x.count(2), 0);
        Due.is("3 no blanks needed", Due.read(x, "thing1by2weight3worth4;"), 1);
        Due.is("3 blanks", Due.read(x, "\n thing \n\n1 by 2 weight 3 worth 0004 ; \n"), 1);
        Due.is("3 worth", x.item(8, 3), 4);
        Due.is("3 only blanks", Due.read(x, " \n "), 0);
        Due.is("3 mixed", Due.read(x, "thing 1 by 1 weight 1 worth 1;box 2 by 1 lid 1 times 1 weight 1 bears 1;thing 3 by 1 weight 1 worth 1;"), 3);
        Due.is("3 first thing", x.item(8, 0), 1);
        Due.is("3 the box", x.item(0, 0), 2);
        Due.is("3 second thing", x.item(9, 0), 3);
    }

    private static void fault(String text, int kind, int place) {
        LargerWithin x = new LargerWithin();
        Due.is("3 text: " + text, Due.read(x, text), -30 - kind);
        Due.is("4 fault: " + text, x.fault(0), kind);
        Due.is("4 place: " + text, x.fault(1), place);
        Due.is("3 nothing comes: " + text, x.count(2), 0);
    }

    private static void p03Faults() {
        fault("Box 1", 1, 0);
        fault("boX 1", 2, 0);
        fault("boxX 1", 1, 3);
        fault("bo 1X", 2, 0);
        fault("box 12345 by 1", 1, 4);
        fault("box 1 by 00001", 1, 9);
        fault("12345", 1, 0);
        fault("1234", 2, 0);
        fault(";", 2, 0);
        fault("box;", 2, 3);
        fault("boxes 1", 2, 0);
        fault("b 1", 2, 0);
        fault("zoo 1", 2, 0);
        fault("box 1 zoo 1", 2, 6);
        fault("{", 1, 0);
        fault("`", 1, 0);
        fault("box /", 1, 4);
        fault("box :", 1, 4);
        fault("box box", 2, 4);
        fault("box 1 b 1", 2, 6);
        fault("box 1 byx 1", 2, 6);
        fault("box 1 1", 2, 6);
        fault("box 1 by 1 lid 1 times 1 weight 1 bears 1", 2, 41);
        fault("box 1 by 1 lid 1 times 1 weight 1 bears 1  ", 2, 43);
        fault("box", 2, 3);
        fault("thing 1 by 1 lid 1", 2, 13);
        fault("thing 1 by 1 weight 1 worth 1 1;", 2, 30);
        fault("box 1\tby 1", 1, 5);
        fault("box 1" + (char) 13 + "by 1", 1, 5);
        fault("box 1" + (char) 225 + "by", 1, 5);
        fault("box 1" + (char) 0, 1, 5);
        fault("thing 1 by 1 weight 1 worth 1;thing 0", 3, 36);
        fault("thing 1 by 1 weight 1 worth 1;;", 2, 30);
        String box = "box 1 by 1 lid 1 times 1 weight 1 bears 1;";
        String thing = "thing 1 by 1 weight 1 worth 1;";
        fault(Due.times(box, 8) + "box Z", 4, 8 * box.length());
        fault(Due.times(thing, 16) + " thing 12345", 4, 16 * thing.length() + 1);
        fault(Due.times(thing, 16) + "thin", 2, 16 * thing.length());
        LargerWithin x = new LargerWithin();
        Due.is("3 all 24", Due.read(x, Due.times(box, 8) + Due.times(thing, 16)), 24);
    }

    private static void bounds(String ahead, int least, int most, String behind) {
        LargerWithin x = new LargerWithin();
        Due.is("3 least: " + ahead, Due.read(x, ahead + least + behind), 1);
        Due.is("3 most: " + ahead, Due.read(x, ahead + most + behind), 1);
        if (least > 0) Due.is("3 below: " + ahead, Due.read(x, ahead + (least - 1) + behind), -33);
        if (most < 9999) Due.is("3 above: " + ahead, Due.read(x, ahead + (most + 1) + behind), -33);
        if (most < 9999) Due.is("4 place: " + ahead, x.fault(1), ahead.length());
    }

    private static void p03Bounds() {
        bounds("box ", 1, 99, " by 1 lid 1 times 1 weight 1 bears 1;");
        bounds("box 1 by ", 1, 99, " lid 1 times 1 weight 1 bears 1;");
        bounds("box 1 by 1 lid ", 1, 99, " times 1 weight 1 bears 1;");
        bounds("box 1 by 1 lid 1 times ", 1, 64, " weight 1 bears 1;");
        bounds("box 1 by 1 lid 1 times 1 weight ", 1, 99, " bears 1;");
        bounds("box 1 by 1 lid 1 times 1 weight 1 bears ", 1, 9999, ";");
        bounds("thing ", 1, 999, " by 1 weight 1 worth 1;");
        bounds("thing 1 by ", 1, 99, " weight 1 worth 1;");
        bounds("thing 1 by 1 weight ", 1, 99, " worth 1;");
        bounds("thing 1 by 1 weight 1 worth ", 0, 99, ";");
    }

    private static void p04() {
        LargerWithin x = new LargerWithin();
        Due.read(x, "box 0");
        Due.is("4 fault", x.fault(0), 3);
        Due.is("4 place", x.fault(1), 4);
        Due.is("4 other", x.fault(2), -1);
        Due.is("4 below", x.fault(-1), -1);
        Due.is("4 not read", x.store(5), -3);
        Due.is("4 stays", x.fault(0), 3);
        Due.is("4 image", x.image(0), 0);
        Due.read(x, "");
        Due.is("4 sound", x.fault(0), 0);
        Due.is("4 sound place", x.fault(1), -1);
        Due.read(x, "!");
        x.restore(0);
        Due.is("4 an image has no fault", x.fault(0), 1);
        Due.is("4 an image has no place", x.fault(1), 0);
    }

    private static void p05() {
        LargerWithin x = Due.with("box 1 by 2 lid 3 times 4 weight 5 bears 6;thing 7 by 8 weight 9 worth 10;");
        int[] box = {1, 2, 5, 0, 3, 4, 6};
        int[] thing = {7, 8, 9, 10, 0, 0, 0};
        for (int what = 0; what < 7; what++) {
            Due.is("5 box " + what, x.item(0, what), box[what]);
            Due.is("5 thing " + what, x.item(8, what), thing[what]);
        }
        Due.is("5 what 7", x.item(0, 7), -2);
        Due.is("5 what -1", x.item(0, -1), -2);
        Due.is("5 no box", x.item(1, 0), -2);
        Due.is("5 no thing", x.item(9, 0), -2);
        Due.is("5 none", x.item(-1, 0), -2);
        Due.is("5 24", x.item(24, 0), -2);
        Due.is("5 least", x.item(MIN, MIN), -2);
        Due.is("5 greatest", x.item(MAX, MAX), -2);
    }

    /** 0 IN 1 IN 2; in 0: 8; in 1: 0, 9; in 2: 1, 10, 11. */
    private static LargerWithin nested() {
        LargerWithin x = Due.with(ROOMY);
        x.put(8, 0);
        x.put(0, 1);
        x.put(9, 1);
        x.put(1, 2);
        x.put(10, 2);
        x.put(11, 2);
        return x;
    }

    private static void p06() {
        LargerWithin x = nested();
        Due.is("6 box", x.lies(8, 0), 0);
        Due.is("6 floor", x.lies(2, 0), -1);
        Due.is("6 over", x.lies(8, 1), 3);
        Due.is("6 over a box", x.lies(1, 1), 2);
        Due.is("6 over the top", x.lies(11, 1), 0);
        Due.is("6 over on the floor", x.lies(2, 1), 0);
        Due.is("6 heft of all", x.lies(2, 2), 2 + 2 + 2 + 3 * 4);
        Due.is("6 heft within", x.lies(1, 2), 2 + 2 + 3 * 2);
        Due.is("6 heft of a thing", x.lies(9, 2), 3);
        Due.is("6 around", x.lies(8, 3), 3);
        Due.is("6 around a box", x.lies(0, 3), 2);
        Due.is("6 none around", x.lies(3, 3), 0);
        Due.is("6 what 4", x.lies(8, 4), -2);
        Due.is("6 what -1", x.lies(8, -1), -2);
        Due.is("6 no item", x.lies(12, 0), -2);
        Due.is("6 no box", x.lies(4, 0), -2);
        Due.is("6 below", x.lies(-1, 0), -2);
    }

    private static void p07() {
        LargerWithin x = nested();
        Due.is("7 room not halved", x.box(3, 0), 9 * 64);
        Due.is("7 room halved once", x.box(0, 0), 9 * 64 / 2);
        Due.is("7 room halved twice", x.box(1, 0), 9 * 64 / 4);
        Due.is("7 fill", x.box(1, 1), 9 + 5);
        Due.is("7 load", x.box(1, 2), 2 + 3 + 3);
        Due.is("7 load of all", x.box(2, 2), 2 + 2 + 4 * 3);
        Due.is("7 halved", x.box(1, 3), 2);
        Due.is("7 halved, not by deeper ones", x.box(2, 3), 1);
        Due.is("7 not halved", x.box(3, 3), 0);
        Due.is("7 many", x.box(2, 4), 3);
        Due.is("7 lowest", x.box(2, 10), 1);
        Due.is("7 next", x.box(2, 11), 10);
        Due.is("7 top", x.box(2, 12), 11);
        Due.is("7 not so many", x.box(2, 13), -7);
        Due.is("7 far above", x.box(2, MAX), -7);
        for (int what = 5; what < 10; what++) Due.is("7 what " + what, x.box(2, what), -2);
        Due.is("7 what -1", x.box(2, -1), -2);
        Due.is("7 what least", x.box(2, MIN), -2);
        Due.is("7 no box", x.box(4, 0), -2);
        Due.is("7 a thing", x.box(8, 0), -2);
        Due.is("7 below", x.box(-1, 0), -2);
        LargerWithin odd = Due.with("box 5 by 1 lid 9 times 3 weight 1 bears 99;" + Due.times("box 1 by 1 lid 1 times 1 weight 1 bears 9;", 2));
        odd.put(1, 0);
        Due.is("7 cut", odd.box(0, 0), 7);
        odd.put(2, 0);
        Due.is("7 cut once", odd.box(0, 0), 3);
    }

    private static void p08() {
        LargerWithin x = nested();
        Due.is("8 may", x.may(3, 2), 0);
        Due.is("8 is not done", x.lies(3, 0), -1);
        Due.is("8 not on the floor", x.may(8, 3), -5);
        Due.is("8 not at hand", x.may(3, 1), -5);
        Due.is("8 deep, not at hand", x.may(3, 0), -5);
        Due.is("8 itself", x.may(3, 3), -8);
        Due.is("8 no item", x.may(12, 0), -2);
        Due.is("8 no box", x.may(8, 4), -2);
        Due.is("8 a thing is no box", x.may(8, 9), -2);
        Due.is("8 below", x.may(-1, -1), -2);
        x.take(11);
        x.take(10);
        Due.is("8 in the one in it", x.may(2, 1), -8);
        x.take(9);
        Due.is("8 deeper", x.may(2, 0), -8);
        Due.is("8 at hand deep within", x.may(11, 0), 0);
    }

    private static void p08Order() {
        // bears are told exactly: box 1 around box 0
        String text = "box 4 by 4 lid 5 times 6 weight 2 bears 7;box 6 by 6 lid 6 times 8 weight 2 bears 9;"
            + "thing 24 by 5 weight 7 worth 1;thing 1 by 6 weight 8 worth 1;thing 25 by 5 weight 8 worth 1;thing 25 by 5 weight 7 worth 1;thing 12 by 1 weight 1 worth 1;thing 13 by 1 weight 1 worth 1;";
        LargerWithin x = Due.with(text);
        Due.is("8 all as much as can be", x.may(8, 0), 0);
        Due.is("8 lid ahead of weight", x.may(9, 0), -9);
        Due.is("8 weight ahead of room", x.may(10, 0), -10);
        Due.is("8 room", x.may(11, 0), -11);
        Due.is("8 half full", x.put(12, 0), 1);
        Due.is("8 then the box still goes in", x.may(0, 1), 0);
        x.take(12);
        x.put(13, 0);
        Due.is("8 too full to be halved", x.may(0, 1), -11);
        x.take(13);
        x.put(0, 1);
        Due.is("8 one around bears it", x.may(8, 0), -11);
        Due.is("8 halved box", x.may(13, 0), -11);
        Due.is("8 half of it", x.may(12, 0), 0);
        LargerWithin y = Due.with("box 4 by 4 lid 5 times 6 weight 2 bears 9;box 6 by 6 lid 6 times 8 weight 2 bears 8;thing 1 by 1 weight 7 worth 1;thing 1 by 1 weight 6 worth 1;");
        y.put(0, 1);
        Due.is("8 one around bears too little", y.may(8, 0), -10);
        Due.is("8 one around just bears it", y.may(9, 0), 0);
        y.take(0);
        y.put(8, 0);
        Due.is("8 with what is in it", y.may(0, 1), -10);
        LargerWithin z = Due.with("box 2 by 2 lid 9 times 10 weight 1 bears 99;box 5 by 9 lid 9 times 1 weight 1 bears 99;box 6 by 9 lid 9 times 1 weight 1 bears 99;box 3 by 9 lid 9 times 2 weight 1 bears 99;thing 6 by 1 weight 1 worth 0;");
        Due.is("8 the box around is halved", z.may(1, 0), 0);
        Due.is("8 and that just fits", z.put(1, 0), 1);
        Due.is("8 halved twice by two", z.may(3, 0), -11);
        z.take(1);
        Due.is("8 alone it fits", z.may(3, 0), 0);
        z.put(8, 3);
        Due.is("8 full ones can't be halved", z.may(3, 0), -11);
    }

    private static void p09() {
        LargerWithin x = Due.with(HOME);
        Due.is("9 first", x.put(8, 0), 1);
        Due.is("9 second", x.put(10, 0), 2);
        Due.is("9 twice", x.put(10, 0), -5);
        Due.is("9 lid", x.put(9, 1), -9);
        Due.is("9 itself", x.put(1, 1), -8);
        Due.is("9 no item", x.put(11, 0), -2);
        Due.is("9 no box", x.put(9, 2), -2);
        Due.is("9 refused: nothing changed", x.count(3), 2);
        Due.is("9 top", x.box(0, 11), 10);
        LargerWithin y = Due.with("box 9 by 9 lid 9 times 1 weight 1 bears 3;thing 1 by 1 weight 4 worth 1;thing 10 by 1 weight 1 worth 1;");
        Due.is("9 heavy", y.put(8, 0), -10);
        Due.is("9 large", y.put(9, 0), -11);
    }

    private static void p10() {
        LargerWithin x = nested();
        Due.is("10 not at hand", x.take(10), -5);
        Due.is("10 deep", x.take(8), -5);
        Due.is("10 floor", x.take(2), -5);
        Due.is("10 no item", x.take(12), -2);
        Due.is("10 below", x.take(-1), -2);
        Due.is("10 top", x.take(11), 2);
        Due.is("10 on the floor then", x.lies(11, 0), -1);
        Due.is("10 next", x.take(10), 2);
        Due.is("10 deeper", x.take(9), 1);
        Due.is("10 deepest", x.take(8), 0);
        Due.is("10 a box within", x.take(0), 1);
    }

    private static void p11() {
        LargerWithin x = nested();
        Due.is("11 all", x.empty(), 6);
        Due.is("11 on the floor", x.lies(8, 0), -1);
        Due.is("11 none more", x.empty(), 0);
        Due.is("11 the store stays", x.count(2), 8);
        Due.is("11 new piles", x.put(8, 0), 1);
        Due.is("11 lowest", x.box(0, 10), 8);
    }

    private static void p12() {
        LargerWithin x = nested();
        Due.is("12 outermost, topmost", x.over(8, 0), 11);
        Due.is("12 next", x.over(8, 1), 10);
        Due.is("12 further in", x.over(8, 2), 9);
        Due.is("12 not so many", x.over(8, 3), -1);
        Due.is("12 over a box", x.over(1, 1), 10);
        Due.is("12 below", x.over(8, -1), -1);
        Due.is("12 far above", x.over(8, MAX), -1);
        Due.is("12 floor", x.over(3, 0), -1);
        Due.is("12 no item", x.over(12, 0), -2);
        Due.is("12 least", x.over(MIN, 0), -2);
    }

    private static void p13() {
        LargerWithin x = Due.with(HOME);
        Due.row(x, 0, 1, 8, 110, 1010, 100);
        Due.is("13 a box in the other can't", x.judge(0, 0), 3);
        Due.is("13 why", x.judge(0, 1), -9);
        Due.is("13 how many then", x.judge(0, 2), 1);
        Due.is("13 not done", x.count(3), 0);
        Due.row(x, 1, 3, 8, 10);
        Due.is("13 all can be", x.judge(1, 0), -1);
        Due.is("13 no why", x.judge(1, 1), 0);
        Due.is("13 two then", x.judge(1, 2), 2);
        for (long odd : new long[] {-1, 11, 211, 908, 1011, 1100, 99, 1L << 40, Long.MIN_VALUE, Long.MAX_VALUE, 808, 2008, 1900}) {
            Due.row(x, 2, 3, 8, odd);
            Due.is("13 no act " + odd, x.judge(2, 0), 1);
            Due.is("13 no such " + odd, x.judge(2, 1), -2);
            Due.is("13 ahead of " + odd, x.judge(2, 2), 1);
        }
        Due.row(x, 2, 0);
        Due.is("13 no acts", x.judge(2, 0), -1);
        Due.is("13 what 3", x.judge(2, 3), -2);
        Due.is("13 what -1", x.judge(3, -1), -2);
        Due.is("13 missing", x.judge(3, 0), -6);
        Due.is("13 no row", x.judge(4, 0), -2);
        Due.is("13 below", x.judge(-1, 0), -2);
    }

    private static void p14() {
        LargerWithin x = Due.with(HOME);
        Due.row(x, 0, 1, 8, 110, 8, 1010);
        Due.is("14 till one can't", x.perform(0), 2);
        Due.is("14 they are done", x.count(3), 2);
        Due.is("14 where", x.lies(10, 0), 1);
        Due.row(x, 0, 1, 1010, 1008);
        Due.is("14 taken", x.perform(0), 2);
        Due.is("14 none left", x.count(3), 0);
        Due.row(x, 0, 1);
        Due.is("14 no acts", x.perform(0), 0);
        Due.is("14 missing", x.perform(1), -6);
        Due.is("14 no row", x.perform(4), -2);
        Due.is("14 below", x.perform(MIN), -2);
    }

    private static void judged(LargerWithin x, int wrong, int culprit, long... numbers) {
        Due.row(x, 0, 3, numbers);
        Due.is("15 wrong with " + java.util.Arrays.toString(numbers), x.packing(0, 0), wrong);
        Due.is("15 who of " + java.util.Arrays.toString(numbers), x.packing(0, 1), culprit);
    }

    private static void p15() {
        LargerWithin x = Due.with(HOME);
        judged(x, 0, -1, -1, -1, -1, -1, -1);
        judged(x, 0, -1, -1, 0, 1, -1, 0);
        judged(x, 1, 1, -1, 2, 2, -1, -1);
        judged(x, 1, 9, -1, -1, 0, -2, 5);
        judged(x, 1, 10, -1, -1, 0, 0, 1L << 32);
        judged(x, 1, 0, 8, -1, 0, 0, 0);
        judged(x, 2, 0, 0, -1, -1, -1, -1);
        judged(x, 2, 0, 1, 0, -1, -1, -1);
        judged(x, 2, 1, -1, 1, -1, 1, -1);
        judged(x, 3, 9, -1, -1, -1, 1, -1);
        judged(x, 5, 0, -1, 0, 0, 0, 0);
        Due.row(x, 0, 0, -1, -1, -1, -1);
        Due.is("15 too short", x.packing(0, 0), -7);
        Due.row(x, 0, 0, -1, -1, -1, -1, -1, -1);
        Due.is("15 too long", x.packing(0, 1), -7);
        Due.is("15 what 2", x.packing(1, 2), -2);
        Due.is("15 what -1", x.packing(0, -1), -2);
        Due.is("15 missing", x.packing(1, 0), -6);
        Due.is("15 no row", x.packing(4, 0), -2);
        Due.is("15 below", x.packing(-1, 0), -2);
        LargerWithin none = new LargerWithin();
        Due.row(none, 0, 0);
        Due.is("15 nothing at all", none.packing(0, 0), 0);
        Due.is("15 where all lies does not matter", x.put(8, 0), 1);
        judged(x, 0, -1, -1, -1, 1, -1, -1);
    }

    private static void p15Order() {
        // 0 bears 5, 1 bears 9, lid 5 and 9
        LargerWithin x = Due.with("box 5 by 9 lid 5 times 2 weight 1 bears 5;box 9 by 5 lid 9 times 2 weight 1 bears 9;"
            + "thing 5 by 6 weight 6 worth 0;thing 6 by 5 weight 5 worth 0;thing 1 by 1 weight 3 worth 0;");
        judged(x, 3, 8, 1, -1, 0, 0, -1);
        judged(x, 4, 0, 1, -1, -1, 0, 0);
        judged(x, 4, 1, -1, -1, 1, 1, -1);
        judged(x, 0, -1, -1, -1, 1, -1, 1);
        judged(x, 5, 0, 1, -1, -1, 0, -1);
        judged(x, 0, -1, -1, -1, -1, 0, -1);
        judged(x, 4, 1, 1, -1, 1, -1, 0);
        judged(x, 2, 0, 1, 0, 0, -1, -1);
        judged(x, 1, 10, 1, 0, 0, -1, 7);
    }

    private static void p16() {
        LargerWithin x = nested();
        x.numbers(0, 0, 8);
        x.copy(0);
        x.empty();
        // 8 into 0, 9 into 1, .. by the first that is ready each time
        int[] acts = {8, 100, 109, 201, 210, 211};
        Due.is("16 how many", x.how(0, -1), 6);
        for (int k = 0; k < 6; k++) Due.is("16 act " + k, x.how(0, k), acts[k]);
        Due.is("16 not so many", x.how(0, 6), -1);
        Due.is("16 far above", x.how(0, MAX), -1);
        Due.is("16 below", x.how(0, -2), -1);
        x.numbers(1, 1, 6);
        for (int k = 0; k < 6; k++) x.write(1, k, x.how(0, k));
        Due.is("16 it can be done so", x.perform(1), 6);
        Due.row(x, 2, 0, 1, -1, -1, -1, 2, 3, 0, -1);
        int[] other = {208, 309, 10, 100};
        for (int k = 0; k < 4; k++) Due.is("16 other act " + k, x.how(2, k), other[k]);
        Due.row(x, 2, 0, 0, -1, -1, -1, -1, -1, -1, -1);
        Due.is("16 wrong", x.how(2, 0), -5);
        Due.is("16 wrong, how many", x.how(2, -1), -5);
        Due.row(x, 2, 0, 9, -1, -1, -1, -1, -1, -1, -1);
        Due.is("16 no box", x.how(2, 9), -5);
        Due.row(x, 2, 0, -1, -1, -1, -1, -1, -1, -1, -1);
        Due.is("16 none", x.how(2, -1), 0);
        Due.is("16 no act", x.how(2, 0), -1);
        Due.row(x, 2, 0, -1);
        Due.is("16 too short", x.how(2, 0), -7);
        Due.is("16 missing", x.how(3, 0), -6);
        Due.is("16 no row", x.how(4, 0), -2);
    }

    private static void p17() {
        LargerWithin x = Due.with(ROOMY);
        Due.row(x, 0, 0, 1, 0, 0, -1, 2, 3, 1, -1);
        Due.is("17 lost", x.lost(0), 1 | 2 | 4 | 1 << 8 | 1 << 10);
        Due.row(x, 0, 0, 0, -1, 1, 2, -1, 3, 0, -1);
        Due.is("17 in itself", x.lost(0), 1 | 1 << 10);
        Due.row(x, 0, 0, 1, 2, 3, 0, 0, -1, -1, -1);
        Due.is("17 all boxes", x.lost(0), 15 | 1 << 8);
        Due.row(x, 0, 0, 1, 2, 3, -1, 0, 0, 0, 0);
        Due.is("17 none", x.lost(0), 0);
        Due.row(x, 0, 0, 0, -1, 1, 2, -1, 3, 4, -1);
        Due.is("17 no box", x.lost(0), -3);
        Due.row(x, 0, 0, 0, -2, 1, 2, -1, 3, 0, -1);
        Due.is("17 below", x.lost(0), -3);
        Due.row(x, 0, 0, 9);
        Due.is("17 too short", x.lost(0), -7);
        Due.is("17 missing", x.lost(1), -6);
        Due.is("17 no row", x.lost(-1), -2);
        LargerWithin all = Due.with(Due.times("box 9 by 9 lid 9 times 64 weight 2 bears 999;", 8) + "thing 1 by 1 weight 1 worth 1;");
        Due.row(all, 0, 0, 1, 2, 3, 4, 5, 6, 7, 0, 3);
        Due.is("17 round all eight", all.lost(0), 255 | 256);
        Due.is("15 round all eight", all.packing(0, 0), 2);
        Due.is("15 round all eight, the first", all.packing(0, 1), 0);
        Due.row(all, 0, 0, 1, 2, 3, 4, 5, 6, 7, -1, 0);
        Due.is("17 eight deep", all.lost(0), 0);
        Due.is("17 eight deep is no cycle", all.packing(0, 0), 0);
        LargerWithin deep = Due.with(Due.times("box 9 by 9 lid 9 times 64 weight 2 bears 999;", 7) + "box 9 by 9 lid 9 times 64 weight 2 bears 14;thing 1 by 1 weight 1 worth 1;");
        Due.row(deep, 0, 0, 1, 2, 3, 4, 5, 6, 7, -1, 0);
        Due.is("15 the load from eight deep", deep.packing(0, 0), 4);
        for (int b = 0; b < 7; b++) deep.put(b, b + 1);
        Due.is("8 the outermost of eight bears no more", deep.may(8, 0), -10);
    }

    private static void p18() {
        LargerWithin x = Due.with(HOME);
        Due.is("18 worth", x.most(1, 1792, 0), 12);
        Due.is("18 set", x.most(1, 1792, 1), 1280);
        Due.is("18 boxes are passed over", x.most(1, 1795, 1), 1280);
        Due.is("18 nothing", x.most(1, 0, 0), 0);
        Due.is("18 no set", x.most(1, 0, 1), 0);
        x.put(8, 0);
        Due.is("18 only on the floor", x.most(1, 1792, 1), 1024);
        Due.is("18 beside what is in it", x.most(0, 1792, 0), 9);
        x.empty();
        x.put(1, 0);
        x.put(10, 0);
        Due.is("18 not at hand", x.most(1, 1792, 1), 256);
        Due.is("18 others than items", x.most(1, 4, 0), -3);
        Due.is("18 no thing", x.most(1, 2048, 0), -3);
        Due.is("18 the highest bit", x.most(1, MIN, 0), -3);
        Due.is("18 what 2", x.most(1, 4, 2), -2);
        Due.is("18 what -1", x.most(1, 0, -1), -2);
        Due.is("18 no box", x.most(2, 4, 0), -2);
        LargerWithin like = Due.with("box 9 by 9 lid 9 times 1 weight 1 bears 99;thing 9 by 1 weight 1 worth 5;thing 4 by 1 weight 1 worth 2;thing 5 by 1 weight 1 worth 3;thing 9 by 9 weight 1 worth 0;");
        Due.is("18 of like ones the least", like.most(0, 3840, 1), 256);
        LargerWithin many = Due.with("box 9 by 9 lid 9 times 64 weight 1 bears 99;" + Due.times("thing 1 by 1 weight 1 worth 1;", 12));
        Due.is("18 the first ten", many.most(0, 0xfff00, 1), 0x3ff00);
        many.put(8, 0);
        Due.is("18 the first ten on the floor", many.most(0, 0xfff00, 1), 0x7fe00);
        LargerWithin around = Due.with("box 3 by 3 lid 9 times 40 weight 1 bears 99;box 9 by 9 lid 9 times 40 weight 1 bears 7;thing 1 by 1 weight 3 worth 1;thing 1 by 1 weight 3 worth 1;thing 1 by 1 weight 3 worth 2;");
        around.put(0, 1);
        Due.is("18 what is around bears", around.most(0, 1792, 0), 3);
        Due.is("18 the least such", around.most(0, 1792, 1), 1280);
    }

    private static void p19() {
        String things = Due.times("thing 10 by 1 weight 5 worth 1;", 3);
        LargerWithin x = Due.with("box 10 by 5 lid 5 times 1 weight 1 bears 99;box 10 by 5 lid 5 times 1 weight 1 bears 99;"
            + "box 10 by 5 lid 5 times 2 weight 9 bears 99;box 10 by 5 lid 5 times 2 weight 9 bears 99;box 10 by 5 lid 5 times 3 weight 30 bears 15;" + things);
        Due.is("19 fewest", x.household(1792, false, 0), 1);
        Due.is("19 its weight", x.household(1792, false, 1), 30);
        Due.is("19 its set", x.household(1792, false, 2), 16);
        Due.is("19 lightest", x.household(1792, true, 1), 10);
        Due.is("19 lightest many", x.household(1792, true, 0), 2);
        Due.is("19 lightest set", x.household(1792, true, 2), 1 | 4);
        Due.is("19 two things, fewest", x.household(768, false, 2), 4);
        Due.is("19 two things, lightest", x.household(768, true, 2), 3);
        Due.is("19 wherever they lie", x.put(8, 4), 1);
        Due.is("19 as if empty", x.household(1792, false, 2), 16);
        Due.is("19 none wanted", x.household(0, true, 0), 0);
        Due.is("19 none wanted, no weight", x.household(0, false, 1), 0);
        Due.is("19 none wanted, no set", x.household(0, true, 2), 0);
        Due.is("19 what 3", x.household(1, false, 3), -2);
        Due.is("19 what -1", x.household(256, false, -1), -2);
        Due.is("19 a box", x.household(257, false, 0), -3);
        Due.is("19 no thing", x.household(1 << 11, false, 0), -3);
        Due.is("19 the highest bit", x.household(MIN, true, 0), -3);
        LargerWithin y = Due.with("box 1 by 1 lid 1 times 1 weight 1 bears 1;thing 2 by 1 weight 1 worth 1;");
        Due.is("19 there is none", y.household(256, false, 0), -1);
        Due.is("19 none, by what 2", y.household(256, true, 2), -1);
        // like ones: two boxes of weight 3 and 1 against one of weight 4: the lightest are the fewest
        LargerWithin z = Due.with("box 5 by 5 lid 5 times 1 weight 1 bears 99;box 5 by 5 lid 5 times 1 weight 3 bears 99;box 5 by 5 lid 5 times 2 weight 4 bears 99;" + Due.times("thing 5 by 1 weight 1 worth 1;", 2));
        Due.is("19 of like weight the fewest", z.household(768, true, 2), 4);
        LargerWithin many = Due.with("box 9 by 9 lid 9 times 9 weight 1 bears 99;" + Due.times("thing 1 by 1 weight 1 worth 1;", 11));
        Due.is("19 ten", many.household(0x3ff00, false, 0), 1);
        Due.is("19 eleven", many.household(0x7ff00, false, 0), -3);
        Due.is("19 boxes are not put in boxes", Due.with("box 1 by 1 lid 1 times 64 weight 1 bears 99;box 1 by 1 lid 2 times 1 weight 1 bears 99;thing 1 by 2 weight 1 worth 1;thing 9 by 1 weight 1 worth 1;").household(768, false, 2), 3);
    }

    private static void p20() {
        LargerWithin x = Due.with("box 10 by 5 lid 5 times 1 weight 2 bears 99;box 10 by 5 lid 5 times 1 weight 1 bears 99;"
            + "thing 2 by 1 weight 1 worth 1;thing 8 by 1 weight 1 worth 1;thing 3 by 1 weight 1 worth 1;thing 7 by 1 weight 1 worth 1;");
        // sizes 2 8 3 7: only 2 + 8 and 3 + 7 go; box 0 takes the greater set as bits: 3 and 7
        Due.is("20 first", x.holds(0xf00, false, 8), 1);
        Due.is("20 second", x.holds(0xf00, false, 9), 1);
        Due.is("20 third", x.holds(0xf00, false, 10), 0);
        Due.is("20 fourth", x.holds(0xf00, true, 11), 0);
        Due.is("20 one box is enough", x.holds(0x300, false, 8), 1);
        Due.is("20 not of the set", x.holds(0x300, false, 10), -2);
        Due.is("20 no item", x.holds(0x300, false, 12), -2);
        Due.is("20 a box of the set", x.holds(0x301, false, 0), -3);
        Due.is("20 a box beside", x.holds(0x301, false, 8), -3);
        Due.is("20 below", x.holds(0x300, false, -1), -2);
        Due.is("20 32 above", x.holds(0x300, false, 40), -2);
        LargerWithin y = Due.with("box 1 by 1 lid 1 times 1 weight 1 bears 1;thing 2 by 1 weight 1 worth 1;" + Due.times("thing 1 by 1 weight 1 worth 1;", 11));
        Due.is("20 there is none", y.holds(256, false, 8), -1);
        Due.is("20 eleven", y.holds(0x7ff00, true, 8), -3);
    }

    private static void p21() {
        LargerWithin x = Due.with("box 4 by 4 lid 4 times 8 weight 1 bears 50;box 5 by 4 lid 4 times 8 weight 1 bears 50;box 6 by 4 lid 4 times 8 weight 1 bears 50;thing 7 by 4 weight 2 worth 0;thing 9 by 5 weight 2 worth 0;");
        Due.is("21 two boxes", x.shut(2, 3), 3);
        Due.is("21 a thing", x.shut(2, 256), 1);
        Due.is("21 one that does not pass", x.shut(2, 512), 0);
        // 8 in 0, 1 or 2, for each of the three ways; a box that is halved twice has no room for it
        Due.is("21 both and a thing", x.shut(2, 259), 6);
        Due.is("21 nothing", x.shut(2, 0), 1);
        Due.is("21 no box", x.shut(3, 3), -2);
        Due.is("21 no item", x.shut(2, 8), -3);
        Due.is("21 that box", x.shut(1, 2), -3);
        Due.is("21 the highest bit", x.shut(1, MIN), -3);
        x.put(8, 0);
        x.put(0, 1);
        Due.is("21 as if empty and on the floor", x.shut(2, 259), 6);
        LargerWithin six = Due.with(Due.times("box 9 by 9 lid 9 times 64 weight 1 bears 999;", 8) + Due.times("thing 1 by 1 weight 1 worth 1;", 3));
        // 7 to the power of 5 trees, less 31 with more than four in the outermost, 186 with more than three in another
        Due.is("21 all trees of six in one", six.shut(0, 126), 16807 - 31 - 186);
        Due.is("21 seven", six.shut(0, 254), -3);
        Due.is("21 seven with things", six.shut(0, 0x700 | 30), -3);
        Due.is("21 three boxes, three things", six.shut(7, 0x700 | 7), 16 * 64);
        LargerWithin bears = Due.with("box 9 by 9 lid 9 times 64 weight 1 bears 3;box 9 by 9 lid 9 times 64 weight 1 bears 5;thing 1 by 1 weight 4 worth 0;");
        Due.is("21 only the outer one bears it", bears.shut(1, 257), 1);
        Due.is("21 too heavy together", bears.shut(0, 258), 0);
        LargerWithin halved = Due.with("box 9 by 9 lid 9 times 2 weight 1 bears 99;box 2 by 9 lid 9 times 9 weight 1 bears 99;thing 8 by 1 weight 4 worth 0;");
        // within 1: 9 times 9 halved is 9: the box of 2 leaves 7
        Due.is("21 halved", halved.shut(0, 258), 1);
    }

    private static void p22() {
        LargerWithin x = Due.with("box 4 by 4 lid 4 times 8 weight 1 bears 50;box 5 by 4 lid 4 times 8 weight 1 bears 50;box 6 by 4 lid 4 times 8 weight 1 bears 50;thing 7 by 4 weight 2 worth 0;thing 9 by 5 weight 2 worth 0;");
        Due.is("22 the first way: 0 in 1", x.shutIn(2, 3, 0), 1);
        Due.is("22 and 1 in that box", x.shutIn(2, 3, 1), 2);
        Due.is("22 within 0: 1 in 0", x.shutIn(0, 6, 1), 0);
        Due.is("22 within 0: 2 in 1, as both are too much", x.shutIn(0, 6, 2), 1);
        Due.is("22 the thing", x.shutIn(2, 259, 8), 0);
        Due.is("22 there is none", x.shutIn(2, 512, 9), -1);
        Due.is("22 not of the set", x.shutIn(2, 3, 8), -2);
        Due.is("22 no item", x.shutIn(2, 1 << 11, 11), -2);
        Due.is("22 no box", x.shutIn(3, 3, 0), -2);
        Due.is("22 that box", x.shutIn(2, 7, 0), -3);
        Due.is("22 others than items", x.shutIn(2, 9, 0), -3);
        LargerWithin six = Due.with(Due.times("box 9 by 9 lid 9 times 64 weight 1 bears 999;", 8));
        Due.is("22 seven", six.shutIn(0, 254, 1), -3);
        Due.is("22 six", six.shutIn(7, 63, 5), 7);
        Due.is("22 six, the first", six.shutIn(7, 63, 0), 1);
    }

    private static void p23() {
        LargerWithin x = Due.with("box 10 by 5 lid 5 times 1 weight 2 bears 99;box 10 by 5 lid 5 times 2 weight 1 bears 99;box 1 by 1 lid 1 times 1 weight 1 bears 1;"
            + "thing 6 by 1 weight 1 worth 1;thing 6 by 1 weight 1 worth 2;thing 6 by 1 weight 1 worth 4;thing 1 by 6 weight 1 worth 0;");
        Due.is("23 differ", x.even(0, 1, 0x700, 0), 1);
        Due.is("23 set", x.even(0, 1, 0x700, 1), 1 << 10);
        Due.is("23 the other way", x.even(1, 0, 0x700, 1), 0x300);
        Due.is("23 nothing", x.even(0, 1, 0, 0), 0);
        Due.is("23 no set", x.even(0, 1, 0, 1), 0);
        Due.is("23 there is none", x.even(0, 2, 0x700, 0), -1);
        Due.is("23 none by the lid", x.even(0, 1, 0x800, 1), -1);
        x.put(8, 0);
        Due.is("23 as if empty", x.even(0, 1, 0x700, 0), 1);
        Due.is("23 both one", x.even(1, 1, 0x700, 0), -2);
        Due.is("23 no first", x.even(3, 1, 1, 0), -2);
        Due.is("23 no other", x.even(0, -1, 0x700, 0), -2);
        Due.is("23 what 2", x.even(0, 1, 1, 2), -2);
        Due.is("23 a box", x.even(0, 1, 1, 0), -3);
        Due.is("23 no thing", x.even(0, 1, 1 << 12, 0), -3);
        LargerWithin like = Due.with(Due.times("box 10 by 5 lid 5 times 9 weight 2 bears 99;", 2) + Due.times("thing 1 by 1 weight 1 worth 3;", 11));
        Due.is("23 of like ones the least", like.even(1, 0, 0xf00, 1), 0x300);
        Due.is("23 ten", like.even(1, 0, 0x3ff00, 0), 0);
        Due.is("23 eleven", like.even(1, 0, 0x7ff00, 0), -3);
    }

    private static void p24() {
        LargerWithin x = Due.with("box 9 by 9 lid 9 times 1 weight 5 bears 9;box 9 by 9 lid 9 times 1 weight 3 bears 9;box 9 by 9 lid 9 times 1 weight 3 bears 9;box 4 by 4 lid 8 times 9 weight 1 bears 8;"
            + "thing 9 by 9 weight 9 worth 1;thing 10 by 1 weight 1 worth 1;thing 36 by 8 weight 8 worth 1;thing 37 by 8 weight 8 worth 0;thing 1 by 1 weight 10 worth 0;thing 1 by 10 weight 1 worth 0;");
        Due.is("24 the lightest, the first", x.lightestFor(8), 1);
        Due.is("24 into the small one", x.lightestFor(9), 3);
        Due.is("24 just", x.lightestFor(10), 3);
        Due.is("24 too large", x.lightestFor(11), -1);
        Due.is("24 too heavy", x.lightestFor(12), -1);
        Due.is("24 too wide", x.lightestFor(13), -1);
        Due.is("24 a box, halved", x.lightestFor(3), 1);
        Due.is("24 not itself, not in half of 9", x.lightestFor(1), -1);
        x.put(8, 1);
        Due.is("24 as if empty", x.lightestFor(8), 1);
        Due.is("24 no item", x.lightestFor(4), -2);
        Due.is("24 below", x.lightestFor(-1), -2);
    }

    private static void p25() {
        LargerWithin x = Due.with("box 4 by 4 lid 4 times 8 weight 1 bears 50;box 5 by 4 lid 4 times 8 weight 1 bears 50;box 6 by 4 lid 4 times 8 weight 1 bears 50;");
        Due.is("25 all", x.nest(-1), 3);
        for (int k = 0; k < 3; k++) Due.is("25 first row " + k, x.nest(k), k);
        Due.is("25 not so many", x.nest(3), -1);
        Due.is("25 below", x.nest(-2), -1);
        Due.is("25 far above", x.nest(MAX), -1);
        x.put(2, 0);
        Due.is("25 as if all were on the floor", x.nest(2), 2);
        // bears: the outermost must bear all within
        LargerWithin bears = Due.with("box 4 by 4 lid 4 times 8 weight 5 bears 9;box 4 by 4 lid 4 times 8 weight 5 bears 10;box 4 by 4 lid 4 times 8 weight 5 bears 4;");
        Due.is("25 bears", bears.nest(-1), 3);
        Due.is("25 bears, innermost", bears.nest(0), 2);
        Due.is("25 bears, next", bears.nest(1), 0);
        Due.is("25 bears, outermost", bears.nest(2), 1);
        // 2 halved twice holds 4 * 4 / 4 = 4; the one in the middle is halved twice
        LargerWithin middle = Due.with("box 4 by 4 lid 4 times 3 weight 1 bears 99;box 4 by 4 lid 4 times 3 weight 1 bears 99;box 4 by 4 lid 4 times 3 weight 1 bears 99;");
        Due.is("25 the middle one is halved twice", middle.nest(-1), 2);
        Due.is("25 the first row", middle.nest(0) * 10 + middle.nest(1), 1);
        LargerWithin alone = Due.with("box 4 by 4 lid 3 times 3 weight 1 bears 99;box 4 by 4 lid 3 times 3 weight 1 bears 99;");
        Due.is("25 one alone", alone.nest(-1), 1);
        Due.is("25 the first", alone.nest(0), 0);
        LargerWithin eight = Due.with(Due.times("box 9 by 9 lid 9 times 64 weight 1 bears 99;", 8));
        Due.is("25 eight", eight.nest(-1), 8);
        Due.is("25 eight, outermost", eight.nest(7), 7);
        Due.is("25 no boxes", Due.with("thing 1 by 1 weight 1 worth 1;").nest(-1), 0);
    }

    private static void p26() {
        LargerWithin x = nested();
        Due.row(x, 0, 0, 8);
        Due.is("26 one", x.voyage(0), 3);
        Due.row(x, 0, 0, 8, 9, 10, 11);
        Due.is("26 from below", x.voyage(0), 3 + 2 + 1);
        Due.row(x, 0, 0, 11, 10, 9, 8);
        Due.is("26 from above", x.voyage(0), 0);
        Due.row(x, 0, 0, 1, 8);
        Due.is("26 a box stays out with what is in it", x.voyage(0), 2 + 1);
        Due.row(x, 0, 0, 0, 8, 3, 2);
        Due.is("26 a box alone", x.voyage(0), 3);
        Due.is("26 nothing moved", x.count(3), 6);
        Due.row(x, 0, 0);
        Due.is("26 none", x.voyage(0), 0);
        Due.row(x, 0, 0, 8, 8);
        Due.is("26 twice", x.voyage(0), -3);
        Due.row(x, 0, 0, 8, 12);
        Due.is("26 no item", x.voyage(0), -3);
        Due.row(x, 0, 3, 8, 1L << 32 | 9);
        Due.is("26 far above", x.voyage(0), -3);
        Due.row(x, 0, 0, -1);
        Due.is("26 below", x.voyage(0), -3);
        Due.is("26 missing", x.voyage(1), -6);
        Due.is("26 no row", x.voyage(4), -2);
        Due.is("26 row below", x.voyage(-1), -2);
    }

    private static void p27() {
        LargerWithin x = nested();
        Due.row(x, 0, 0, 8, 9, 10);
        Due.is("27 fewest", x.voyages(0, 0), 1 + 1 + 1);
        Due.is("27 order 0", x.voyages(0, 10), 10);
        Due.is("27 order 1", x.voyages(0, 11), 9);
        Due.is("27 order 2", x.voyages(0, 12), 8);
        Due.is("27 not so many", x.voyages(0, 13), -1);
        Due.is("27 14 too", x.voyages(0, 14), -1);
        Due.is("27 what 15", x.voyages(0, 15), -2);
        Due.is("27 what 1", x.voyages(0, 1), -2);
        Due.is("27 what 9", x.voyages(0, 9), -2);
        Due.is("27 what -1", x.voyages(1, -1), -2);
        Due.row(x, 0, 0, 3, 2, 11, 1, 0);
        Due.is("27 five", x.voyages(0, 0), 1 + 1);
        // 11 ahead of 1, then all that is over 0 is 9; the first by items: 2 is on the floor, 11 comes first for 0
        int[] order = {2, 3, 11, 1, 0};
        for (int k = 0; k < 5; k++) Due.is("27 like ones, the first " + k, x.voyages(0, 10 + k), order[k]);
        Due.row(x, 0, 0, 3, 2, 11, 1, 0, 8);
        Due.is("27 six", x.voyages(0, 0), -3);
        Due.row(x, 0, 0, 3, 3);
        Due.is("27 twice", x.voyages(0, 0), -3);
        Due.row(x, 0, 0, 3, 23);
        Due.is("27 no item", x.voyages(0, 0), -3);
        Due.row(x, 0, 0);
        Due.is("27 none", x.voyages(0, 0), 0);
        Due.is("27 none, first", x.voyages(0, 10), -1);
        Due.is("27 missing", x.voyages(1, 0), -6);
        Due.is("27 no row", x.voyages(4, 0), -2);
    }

    /** Weights 1 2 3 4 5, sizes 5 4 3 2 1, the last too wide; room 9, bears 8. */
    private static LargerWithin weighed() {
        return Due.with("box 9 by 9 lid 3 times 1 weight 1 bears 8;thing 5 by 1 weight 1 worth 1;thing 4 by 2 weight 2 worth 1;thing 3 by 3 weight 3 worth 1;thing 2 by 3 weight 4 worth 1;thing 1 by 4 weight 5 worth 1;");
    }

    private static void p28() {
        LargerWithin x = weighed();
        Due.is("28 two of weight 5", x.chest(0, 0x1f00, 2, 5), 2);
        Due.is("28 one too wide", x.chest(0, 0x1f00, 1, 5), 0);
        Due.is("28 room", x.chest(0, 0x1f00, 3, 6), 0);
        Due.is("28 just room", x.chest(0, 0x1f00, 3, 9), 0);
        Due.is("28 three of 8", x.chest(0, 0x1f00, 3, 8), 0);
        Due.is("28 two of 3", x.chest(0, 0x1f00, 2, 3), 1);
        Due.is("28 none of 0", x.chest(0, 0x1f00, 0, 0), 1);
        Due.is("28 none of 1", x.chest(0, 0x1f00, 0, 1), 0);
        Due.is("28 twelve", x.chest(0, 0x1f00, 12, 5), 0);
        x.put(8, 0);
        Due.is("28 as if empty", x.chest(0, 0x1f00, 2, 5), 2);
        Due.is("28 thirteen", x.chest(0, 0x1f00, 13, 5), -3);
        Due.is("28 n below", x.chest(0, 0x1f00, -1, 5), -3);
        Due.is("28 w below", x.chest(0, 0x1f00, 2, -1), -3);
        Due.is("28 a box", x.chest(0, 0x1f01, 2, 5), -3);
        Due.is("28 no thing", x.chest(0, 0x2000, 2, 5), -3);
        Due.is("28 no box", x.chest(1, 1, 13, -5), -2);
        LargerWithin many = Due.with("box 9 by 9 lid 3 times 9 weight 1 bears 99;" + Due.times("thing 1 by 1 weight 1 worth 1;", 14));
        Due.is("28 the first twelve", many.chest(0, 0x3fff00, 1, 1), 12);
        Due.is("28 924", many.chest(0, 0x3fff00, 6, 6), 924);
        Due.is("28 twelve of twelve", many.chest(0, 0x3fff00, 12, 12), 1);
        Due.is("28 others twelve", many.chest(0, 0x3ffe00, 1, 1), 12);
        LargerWithin heavy = Due.with("box 9 by 9 lid 3 times 9 weight 1 bears 4;" + Due.times("thing 1 by 1 weight 1 worth 1;", 5));
        Due.is("28 bears", heavy.chest(0, 0x1f00, 5, 5), 0);
        Due.is("28 just bears", heavy.chest(0, 0x1f00, 4, 4), 5);
    }

    private static void p29() {
        LargerWithin x = Due.with("box 9 by 9 lid 3 times 9 weight 1 bears 99;thing 1 by 1 weight 1 worth 1;thing 1 by 1 weight 1 worth 1;thing 1 by 1 weight 4 worth 1;thing 1 by 1 weight 9 worth 1;");
        Due.is("29 in all", x.sure(0, 0xf00, 2, 5, true), 0x400);
        Due.is("29 in none", x.sure(0, 0xf00, 2, 5, false), 0x800);
        Due.is("29 no such set", x.sure(0, 0xf00, 2, 6, true), 0);
        Due.is("29 no such set, out", x.sure(0, 0xf00, 2, 6, false), 0);
        Due.is("29 the empty set", x.sure(0, 0xf00, 0, 0, false), 0xf00);
        Due.is("29 the empty set, in", x.sure(0, 0xf00, 0, 0, true), 0);
        Due.is("29 only of the set", x.sure(0, 0x500, 2, 5, false), 0);
        Due.is("29 all of it", x.sure(0, 0x500, 2, 5, true), 0x500);
        Due.is("29 no box", x.sure(1, 1, 2, 5, true), -2);
        Due.is("29 a box", x.sure(0, 1, 2, 5, true), -3);
        Due.is("29 n", x.sure(0, 0xf00, 13, 5, true), -3);
        Due.is("29 w", x.sure(0, 0xf00, 2, -5, false), -3);
    }

    private static void p30() {
        LargerWithin x = Due.with("box 9 by 9 lid 3 times 9 weight 1 bears 99;" + Due.times("thing 1 by 1 weight 1 worth 1;", 4) + "thing 1 by 1 weight 4 worth 0;thing 1 by 1 weight 2 worth 0;");
        Due.is("30 all alike: the first", x.look(0, 0xf00, 1, 1), 8);
        Due.is("30 halves", x.look(0, 0xf00, 2, 2), 8);
        // weight 4 by two things: 2 + .. no; by three: 1 + 1 + 2: six sets, each of the four in three
        Due.is("30 all have it: no look", x.look(0, 0x3f00, 3, 4), 8);
        // of four that are one of 9, 10 and one of 11, 12 ..: not possible by weights alone
        Due.is("30 one set", x.look(0, 0x1f00, 1, 4), -1);
        Due.is("30 no set", x.look(0, 0x1f00, 1, 3), -1);
        LargerWithin y = Due.with("box 9 by 9 lid 3 times 9 weight 1 bears 99;thing 1 by 1 weight 9 worth 0;thing 1 by 1 weight 5 worth 0;thing 1 by 1 weight 2 worth 0;thing 1 by 1 weight 2 worth 0;thing 1 by 1 weight 3 worth 0;thing 1 by 1 weight 4 worth 0;");
        // two of weight 7: 9+11 no; {9,10}, {9,11}, {12,13}: in: 9 two of three, 10 one, 11 one, 12 one
        Due.is("30 the fewest at worst, the least", y.look(0, 0x3f00, 2, 7), 9);
        Due.is("30 without it", y.look(0, 0x3d00, 2, 7), -1);
        Due.is("30 no box", x.look(-1, 0, 0, 0), -2);
        Due.is("30 a box", x.look(0, 1, 0, 0), -3);
        Due.is("30 n", x.look(0, 0xf00, -1, 0), -3);
        Due.is("30 w", x.look(0, 0xf00, 1, MIN), -3);
    }

    private static void p31() {
        LargerWithin x = Due.with("box 9 by 9 lid 3 times 9 weight 1 bears 99;" + Due.times("thing 1 by 1 weight 1 worth 1;", 14));
        Due.is("31 one of four", x.looks(0, 0xf00, 1, 1), 3);
        Due.is("31 two of four", x.looks(0, 0xf00, 2, 2), 3);
        Due.is("31 one of twelve", x.looks(0, 0xfff00, 1, 1), 11);
        Due.is("31 one of two", x.looks(0, 0x300, 1, 1), 1);
        Due.is("31 one set", x.looks(0, 0x300, 2, 2), 0);
        Due.is("31 none", x.looks(0, 0x300, 2, 3), -1);
        Due.is("31 the first twelve of more", x.looks(0, 0x3fff00, 1, 1), 11);
        Due.is("31 more than twelve", x.looks(0, 0xfff00, 2, 2), -4);
        Due.is("31 ten", x.looks(0, 0x1f00, 2, 2), 4);
        // of 8+9, 8+10, 11+12, 13+14 a look for 8 leaves two at worst, any other three
        LargerWithin pairs = Due.with("box 9 by 9 lid 3 times 9 weight 1 bears 99;thing 1 by 1 weight 1 worth 1;thing 1 by 1 weight 19 worth 1;thing 1 by 1 weight 19 worth 1;"
            + "thing 1 by 1 weight 3 worth 1;thing 1 by 1 weight 17 worth 1;thing 1 by 1 weight 6 worth 1;thing 1 by 1 weight 14 worth 1;");
        Due.is("31 four pairs", pairs.chest(0, 0x7f00, 2, 20), 4);
        Due.is("31 the best look", pairs.look(0, 0x7f00, 2, 20), 8);
        Due.is("31 two looks", pairs.looks(0, 0x7f00, 2, 20), 2);
        Due.is("31 no box", x.looks(1, 0, 0, 0), -2);
        Due.is("31 a box", x.looks(0, 1, 0, 0), -3);
        Due.is("31 n", x.looks(0, 0xf00, 13, 0), -3);
        Due.is("31 w", x.looks(0, 0xf00, 0, -1), -3);
    }

    private static void p32() {
        LargerWithin x = weighed();
        // weight 5: {8,11} size 7, {9,10} size 7, {12} too wide
        Due.is("32 two sets", x.sounded(0, 0x1f00, 5, 7), 2);
        Due.is("32 other size", x.sounded(0, 0x1f00, 5, 6), 0);
        Due.is("32 too wide", x.sounded(0, 0x1f00, 5, 1), 0);
        Due.is("32 any number", x.sounded(0, 0xf00, 7, 5), 1);
        Due.is("32 no room", x.sounded(0, 0xf00, 6, 12), 0);
        Due.is("32 too heavy", x.sounded(0, 0xf00, 9, 9), 0);
        Due.is("32 nothing", x.sounded(0, 0x1f00, 0, 0), 1);
        Due.is("32 w below", x.sounded(0, 0x1f00, -1, 0), -3);
        Due.is("32 f below", x.sounded(0, 0x1f00, 0, -1), -3);
        Due.is("32 a box", x.sounded(0, 1, 0, 0), -3);
        Due.is("32 no box", x.sounded(1, 1, -1, 0), -2);
        LargerWithin many = Due.with("box 9 by 9 lid 3 times 9 weight 1 bears 99;" + Due.times("thing 1 by 1 weight 1 worth 1;", 14));
        Due.is("32 the first twelve", many.sounded(0, 0x3fff00, 6, 6), 924);
        many.put(8, 0);
        Due.is("32 as if empty", many.sounded(0, 0x3fff00, 12, 12), 1);
    }

    private static void p33() {
        LargerWithin x = Due.with("box 5 by 5 lid 9 times 8 weight 1 bears 99;box 3 by 3 lid 9 times 9 weight 1 bears 99;box 30 by 9 lid 9 times 9 weight 1 bears 999;thing 10 by 1 weight 1 worth 0;thing 1 by 1 weight 1 worth 0;");
        Due.is("33 empty", x.needs(0), 1);
        x.put(8, 0);
        Due.is("33 just", x.needs(0), 2);
        x.put(9, 0);
        Due.is("33 one more", x.needs(0), 3);
        x.take(9);
        x.put(1, 0);
        // 13 within, halved once: 5 * 6 / 2 = 15, 5 * 5 / 2 = 12
        Due.is("33 halved, cut", x.needs(0), 6);
        Due.is("33 no box", x.needs(3), -2);
        Due.is("33 below", x.needs(-1), -2);
        LargerWithin most = Due.with("box 1 by 1 lid 9 times 64 weight 1 bears 99;thing 64 by 1 weight 1 worth 0;");
        most.put(8, 0);
        Due.is("33 the greatest", most.needs(0), 64);
    }

    private static void p34() {
        LargerWithin x = new LargerWithin();
        Due.is("34 room", x.room(10, 4, 0), 40);
        Due.is("34 halved", x.room(10, 4, 3), 5);
        Due.is("34 cut once", x.room(5, 3, 2), 3);
        Due.is("34 least", x.room(1, 1, 9), 0);
        Due.is("34 greatest", x.room(99, 64, 0), 6336);
        Due.is("34 nine times", x.room(99, 64, 9), 12);
        Due.is("34 size 0", x.room(0, 1, 0), -3);
        Due.is("34 size 100", x.room(100, 1, 0), -3);
        Due.is("34 factor 0", x.room(1, 0, 0), -3);
        Due.is("34 factor 65", x.room(1, 65, 0), -3);
        Due.is("34 halved -1", x.room(1, 1, -1), -3);
        Due.is("34 halved 10", x.room(1, 1, 10), -3);
    }

    private static void p35() {
        LargerWithin x = Due.with("box 5 by 5 lid 9 times 8 weight 1 bears 99;thing 10 by 1 weight 1 worth 0;thing 30 by 1 weight 1 worth 0;thing 1 by 1 weight 1 worth 0;");
        Due.is("35 empty", x.deepest(0), 9);
        x.put(8, 0);
        Due.is("35 10 of 40", x.deepest(0), 2);
        x.put(9, 0);
        Due.is("35 40 of 40", x.deepest(0), 0);
        x.empty();
        x.put(10, 0);
        Due.is("35 1 of 40", x.deepest(0), 5);
        Due.is("35 no box", x.deepest(1), -2);
        Due.is("35 below", x.deepest(-1), -2);
        LargerWithin large = Due.with("box 99 by 5 lid 9 times 64 weight 1 bears 99;thing 1 by 1 weight 1 worth 0;");
        large.put(8, 0);
        Due.is("35 nine at the most", large.deepest(0), 9);
    }

    private static void p36() {
        LargerWithin x = Due.with("box 9 by 9 lid 9 times 9 weight 1 bears 99;thing 1 by 1 weight 1 worth 0;");
        // SEED 0: x is 12345 (0: ITEM 0), then -747505211 (54129: the one BOX): -8; 1 is the THING
        int seed = 0;
        int moved = 0;
        boolean packed = false;
        for (int t = 0; t < 60; t++) {
            seed = seed * 1103515245 + 12345;
            boolean thing = (seed >>> 16) % 2 == 1;
            if (thing && packed) { packed = false; moved++; continue; }
            seed = seed * 1103515245 + 12345;
            if (thing) { packed = true; moved++; }
        }
        Due.is("36 sixty times", x.carriers(0, 60), moved);
        Due.is("36 where it is then", x.lies(8, 0), packed ? 0 : -1);
        Due.isTrue("36 something is moved", moved > 5);
        Due.is("36 once", x.carriers(0, 1), 0);
        Due.is("36 none", x.carriers(0, 0), -3);
        Due.is("36 too often", x.carriers(0, 61), -3);
        Due.is("36 below", x.carriers(0, MIN), -3);
        Due.is("36 no items", new LargerWithin().carriers(0, 0), -5);
        LargerWithin things = Due.with(Due.times("thing 1 by 1 weight 1 worth 0;", 3));
        Due.is("36 no boxes", things.carriers(-5, 60), 0);
    }

    private static void p37() {
        LargerWithin x = new LargerWithin();
        for (int row = 0; row < 4; row++) {
            Due.is("37 row " + row, x.numbers(row, row, 40), 0);
            Due.is("37 last", x.write(row, 39, 1), 1);
            Due.is("37 behind it", x.write(row, 40, 1), -7);
        }
        Due.is("37 no row", x.numbers(4, 0, 41), -2);
        Due.is("37 row below", x.numbers(-1, 0, 1), -2);
        Due.is("37 no sort", x.numbers(0, 4, 41), -2);
        Due.is("37 sort below", x.numbers(0, -1, 1), -2);
        Due.is("37 n above", x.numbers(0, 0, 41), -3);
        Due.is("37 n below", x.numbers(0, 0, -1), -3);
        Due.is("37 the row stays", x.write(0, 39, 300), 44);
        Due.is("37 none", x.numbers(0, 0, 0), 0);
        Due.is("37 has none", x.write(0, 0, 1), -7);
        Due.is("37 is not missing", x.perform(0), 0);
        LargerWithin y = Due.with("box 1 by 1 lid 1 times 1 weight 1 bears 1;");
        y.numbers(0, 3, 1);
        y.write(0, 0, 5);
        Due.is("37 another number", y.packing(0, 0), 1);
        y.numbers(0, 3, 1);
        Due.is("37 all 0", y.packing(0, 0), 2);
    }

    private static void p38() {
        LargerWithin x = new LargerWithin();
        Due.is("38 missing", x.write(0, 0, 1), -6);
        for (int sort = 0; sort < 4; sort++) x.numbers(sort, sort, 2);
        Due.is("38 8 bits", x.write(0, 0, 0x1ff), -1);
        Due.is("38 8 bits, highest", x.write(0, 0, 128), -128);
        Due.is("38 8 bits, whole", x.write(0, 1, 127), 127);
        Due.is("38 16 bits", x.write(1, 0, 0x18000), -32768);
        Due.is("38 16 bits, whole", x.write(1, 0, -32768), -32768);
        Due.is("38 32 bits", x.write(2, 0, 0x1ffffffffL), -1);
        Due.is("38 32 bits, highest", x.write(2, 0, 0x80000000L), MIN);
        Due.is("38 64 bits", x.write(3, 0, Long.MIN_VALUE), Long.MIN_VALUE);
        Due.is("38 64 bits, large", x.write(3, 1, Long.MAX_VALUE), Long.MAX_VALUE);
        Due.is("38 no row", x.write(4, 9, 1), -2);
        Due.is("38 row below", x.write(-1, 0, 1), -2);
        Due.is("38 no number", x.write(0, 2, 1), -7);
        Due.is("38 below", x.write(0, -1, 1), -7);
        LargerWithin y = Due.with(HOME);
        Due.row(y, 0, 0, 8, 1008);
        Due.is("38 it is there as it was cut", y.judge(0, 1), -2);
    }

    private static void p39() {
        LargerWithin x = nested();
        Due.is("39 missing", x.copy(0), -6);
        Due.row(x, 0, 0, 7, 7, 7, 7, 7, 7, 7, 7, 7, 1008);
        Due.is("39 how many", x.copy(0), 8);
        Due.row(x, 1, 3, 7, 7, 7, 7, 7, 7, 7, 7);
        Due.is("39 just", x.copy(1), 8);
        Due.is("39 sound", x.packing(1, 0), 0);
        Due.is("39 as many are packed", x.how(1, -1), 6);
        Due.is("39 where", x.how(1, 5), 211);
        Due.row(x, 2, 3, 99, 99, 99, 99, 99, 99, 99);
        Due.is("39 too few places", x.copy(2), -7);
        Due.is("39 no row", x.copy(4), -2);
        Due.is("39 row below", x.copy(-1), -2);
        Due.is("39 nothing came", x.judge(2, 1), -2);
        LargerWithin y = Due.with("box 9 by 9 lid 9 times 9 weight 1 bears 99;thing 1 by 1 weight 1 worth 1;");
        y.put(8, 0);
        // its first numbers are -1 and 0 then: the third one stays as it was
        Due.row(y, 0, 1, 5, 5, 1008);
        Due.is("39 from the first place on", y.copy(0), 2);
        Due.is("39 NONE is no act", y.judge(0, 0), 0);
        y.write(0, 0, 1008);
        y.write(0, 1, 8);
        Due.is("39 the others stay", y.judge(0, 0), -1);
        Due.is("39 taken, put, taken", y.judge(0, 2), 0);
        LargerWithin none = new LargerWithin();
        none.numbers(0, 0, 0);
        Due.is("39 nothing to copy", none.copy(0), 0);
    }

    private static void p40and41() {
        LargerWithin x = nested();
        Due.is("41 none made", x.restore(0), -5);
        Due.is("40 made", x.image(0), 0);
        x.take(11);
        x.take(10);
        Due.is("40 another", x.image(1), 0);
        x.put(10, 2);
        x.empty();
        Due.is("41 as it was", x.restore(0), 0);
        Due.is("41 all of it", x.count(3), 6);
        Due.is("41 in its order", x.over(8, 0), 11);
        Due.is("41 in its order too", x.over(8, 1), 10);
        Due.read(x, HOME);
        Due.feed(x, " ");
        Due.row(x, 0, 0, 1, 2, 3);
        Due.is("41 the other", x.restore(1), 0);
        Due.is("41 its store", x.count(2), 8);
        Due.is("41 its places", x.count(3), 4);
        Due.is("41 the tape stays", x.count(4), 20);
        Due.is("41 rows stay", x.write(0, 3, 0), -7);
        Due.is("41 again", x.restore(0), 0);
        x.take(11);
        Due.is("41 the image stays as it was", x.restore(0), 0);
        Due.is("41 once more", x.count(3), 6);
        Due.is("40 no image", x.image(2), -2);
        Due.is("40 below", x.image(-1), -2);
        Due.is("41 no image", x.restore(2), -2);
        Due.is("41 below", x.restore(-1), -2);
        LargerWithin y = new LargerWithin();
        y.image(1);
        Due.read(y, HOME);
        Due.is("41 only the other was made", y.restore(0), -5);
        Due.is("41 nothing", y.restore(1), 0);
        Due.is("41 no items", y.count(2), 0);
    }

    private static void p42() {
        LargerWithin x = Due.with(HOME);
        x.put(8, 1);
        x.put(1, 0);
        Due.feed(x, "thing");
        int[] due = {2, 3, 5, 2, 20, 10};
        for (int what = 0; what < 6; what++) Due.is("42 count " + what, x.count(what), due[what]);
        x.put(10, 0);
        Due.is("42 worth", x.count(5), 12);
        Due.is("42 6", x.count(6), -1);
        Due.is("42 below", x.count(-1), -1);
        Due.is("42 least", x.count(MIN), -1);
    }
}
