/** The edges that the document names for THE TAPE, the text and its FAULTS, item(): promises 1 to 5. */
public final class TextEdgesTest {
    private static final String BOX = "box 1 by 1 lid 1 times 1 weight 1 bears 1;";
    private static final String THING = "thing 1 by 1 weight 1 worth 1;";
    private static final int BLANKS = 0x20202020;
    private static final int MIN = Integer.MIN_VALUE;
    private static final int MAX = Integer.MAX_VALUE;

    public static void main(String[] args) {
        aNewObject();
        tapeOf900();
        textOf900();
        bytesOfAnInt();
        howMuchIsRead();
        theTapeIsEmptyThen();
        allStaysWithAFault();
        everyByteAhead();
        everyByteBehind();
        tokensGoOn();
        fiveDigits();
        leastKindOfOneToken();
        firstAlongTheText();
        theEnd();
        everyWordInEveryPlace();
        everyLetterOfEveryWord();
        numbersBounds();
        ninthBox();
        seventeenthThing();
        latestThatWasRead();
        itemNumbers();
        itemOfFullStore();
        itemWhat();
        Due.end("TextEdgesTest");
    }

    /** Feeds blanks: how many bytes are there then. */
    private static int blanks(LargerWithin x) {
        return x.feed(BLANKS, BLANKS, BLANKS, BLANKS, BLANKS);
    }

    private static void fault(String text, int kind, int place) {
        LargerWithin x = new LargerWithin();
        Due.is("text \"" + text + "\"", Due.read(x, text), -30 - kind);
        Due.is("FAULT of \"" + text + "\"", x.fault(0), kind);
        Due.is("place of \"" + text + "\"", x.fault(1), place);
        Due.is("LINES after \"" + text + "\"", x.count(2), 0);
    }

    private static void sound(String text, int lines) {
        LargerWithin x = new LargerWithin();
        Due.is("text \"" + text + "\"", Due.read(x, text), lines);
        Due.is("FAULT of \"" + text + "\"", x.fault(0), 0);
        Due.is("place of \"" + text + "\"", x.fault(1), -1);
        Due.is("LINES of \"" + text + "\"", x.count(2), lines);
    }

    // "An empty STORE."
    private static void aNewObject() {
        LargerWithin x = new LargerWithin();
        for (int what = 0; what <= 5; what++) Due.is("new: count " + what, x.count(what), 0);
        Due.is("new: no FAULT", x.fault(0), 0);
        Due.is("new: no place", x.fault(1), -1);
        Due.is("new: no first BOX", x.item(0, 0), -2);
        Due.is("new: no first THING", x.item(8, 0), -2);
        Due.is("new: nothing on THE TAPE", x.store(1), -3);
        Due.is("new: nothing of THE TAPE", x.store(0), 0);
    }

    // "-5: it would have more than 900."
    private static void tapeOf900() {
        LargerWithin x = new LargerWithin();
        for (int k = 1; k <= 44; k++) blanks(x);
        Due.is("880 bytes", x.count(4), 880);
        Due.is("900 bytes", blanks(x), 900);
        Due.is("920 bytes can't be", x.feed(MIN, MAX, -1, 0, 1), -5);
        Due.is("900 bytes stay", x.count(4), 900);
        Due.is("can't be again", blanks(x), -5);
        Due.is("901 bytes are not there", x.store(901), -3);
        Due.is("what was refused is not among them", x.store(900), 0);
        Due.is("then there is place again", blanks(x), 20);
    }

    // "THE STORE is a TEXT of at most 900 bytes"
    private static void textOf900() {
        String text = Due.times(BOX, 8) + Due.times(THING, 16);
        String filled = text.substring(0, text.length() - 1) + Due.times(" ", 900 - text.length()) + ";";
        Due.is("its length", filled.length(), 900);
        LargerWithin x = new LargerWithin();
        Due.feed(x, filled);
        Due.is("the last byte is missing", x.store(899), -32);
        Due.is("missing at the end", x.fault(1), 899);
        Due.feed(x, filled);
        Due.is("all 900 bytes", x.store(900), 24);
        Due.is("the last line is there", x.item(23, 0), 1);
    }

    // "the highest of each int first"
    private static void bytesOfAnInt() {
        // a byte that is no TOKEN at each of twenty places, all others being blanks
        for (int place = 0; place < 20; place++) {
            int[] v = {BLANKS, BLANKS, BLANKS, BLANKS, BLANKS};
            int shift = 24 - 8 * (place % 4);
            v[place / 4] = v[place / 4] & ~(255 << shift) | 0xff << shift;
            LargerWithin x = new LargerWithin();
            blanks(x);
            x.feed(v[0], v[1], v[2], v[3], v[4]);
            Due.is("byte " + place, x.store(40), -31);
            Due.is("place of byte " + place, x.fault(1), 20 + place);
        }
    }

    // "-3: n is below 0 or above what there is (THE TAPE stays)"
    private static void howMuchIsRead() {
        LargerWithin x = new LargerWithin();
        Due.feed(x, THING);
        Due.is("40 bytes", x.count(4), 40);
        for (int n : new int[] {-1, -2, -40, MIN, 41, 60, 900, 901, MAX}) {
            Due.is("n " + n, x.store(n), -3);
            Due.is("THE TAPE stays at n " + n, x.count(4), 40);
        }
        Due.is("it is what it was", x.store(30), 1);
        Due.feed(x, THING);
        Due.is("as much as there is", x.store(40), 1);
        Due.is("of nothing one byte", x.store(1), -3);
        Due.is("one byte less than none", x.store(-1), -3);
        Due.is("LINES stay", x.count(2), 1);
        Due.feed(x, THING);
        Due.is("none of it", x.store(0), 0);
        Due.is("no LINES", x.count(2), 0);
    }

    // "(which is empty then)"
    private static void theTapeIsEmptyThen() {
        LargerWithin x = new LargerWithin();
        Due.feed(x, THING + THING);
        Due.is("the first of two", x.store(30), 1);
        Due.is("the second is gone", x.count(4), 0);
        Due.is("and can't be read", x.store(30), -3);
        Due.feed(x, "!" + THING);
        Due.is("a FAULT", x.store(31), -31);
        Due.is("empty with a FAULT, too", x.count(4), 0);
        Due.is("new bytes come first", blanks(x), 20);
        Due.is("nothing old is read", x.store(20), 0);
        Due.feed(x, THING);
        Due.is("none", x.store(0), 0);
        Due.is("empty with none, too", x.count(4), 0);
    }

    // "all on THE FLOOR", "(all stays with a FAULT)"
    private static void allStaysWithAFault() {
        String[] wrong = {"box 1!", "thing box", "thing 1000", Due.times(THING, 16) + "thing 1"};
        for (int kind = 1; kind <= 4; kind++) {
            LargerWithin x = Due.with(Due.box(9, 8, 7, 6, 5, 40) + Due.thing(4, 3, 2, 1));
            x.put(8, 0);
            Due.is("FAULT " + kind, Due.read(x, wrong[kind - 1]), -30 - kind);
            Due.is("LINES stay with " + kind, x.count(2), 2);
            int[] box = {9, 8, 5, 0, 7, 6, 40};
            int[] thing = {4, 3, 2, 1, 0, 0, 0};
            for (int what = 0; what < 7; what++) {
                Due.is("the BOX stays with " + kind, x.item(0, what), box[what]);
                Due.is("the THING stays with " + kind, x.item(8, what), thing[what]);
            }
            Due.is("it stays where it lies with " + kind, x.lies(8, 0), 0);
            Due.is("another text", Due.read(x, Due.box(9, 8, 7, 6, 5, 40) + Due.thing(4, 3, 2, 1)), 2);
            Due.is("all on THE FLOOR", x.lies(8, 0), -1);
            Due.is("none IN a BOX", x.box(0, 4), 0);
        }
    }

    private static boolean isLetter(int sign) { return sign >= 97 && sign <= 122; }

    private static boolean isDigit(int sign) { return sign >= 48 && sign <= 57; }

    private static boolean isBlank(int sign) { return sign == 10 || sign == 32; }

    // "TOKENS .. between them blanks (10, 32): words (small letters), N, the sign ;", "1 no TOKEN begins so"
    private static void everyByteAhead() {
        for (int sign = 0; sign < 256; sign++) {
            String text = String.valueOf((char) sign);
            boolean isToken = isLetter(sign) || isDigit(sign) || sign == 59;
            if (isBlank(sign)) {
                sound(text, 0);
                sound(text + THING, 1);
            } else {
                fault(text, isToken ? 2 : 1, 0);
            }
        }
    }

    private static void everyByteBehind() {
        for (int sign = 0; sign < 256; sign++) {
            String text = "box 1" + (char) sign;
            if (isBlank(sign) || isDigit(sign)) {
                fault(text, 2, 6);
            } else {
                fault(text, isLetter(sign) || sign == 59 ? 2 : 1, 5);
            }
            String word = "b" + (char) sign;
            // a word that goes on can't stand there from its first letter on
            fault(word, 2, 0);
            String whole = "box" + (char) sign;
            if (isDigit(sign) && sign != 48 || isBlank(sign)) {
                fault(whole, 2, 4);
            } else if (isLetter(sign)) {
                fault(whole, 2, 0);
            } else if (sign == 48) {
                fault(whole, 3, 3);
            } else {
                fault(whole, sign == 59 ? 2 : 1, 3);
            }
        }
    }

    // "TOKENS, as long as they go on"
    private static void tokensGoOn() {
        sound("thing1by1weight1worth1;", 1);
        sound("thing1by1weight1worth1;box1by1lid1times1weight1bears1;", 2);
        sound("\n\n  thing\n1\nby\n1\nweight\n1\nworth\n1\n;\n", 1);
        sound("thing 99by 99weight 99worth 99 ;", 1);
        fault("thingthing 1", 2, 0);
        fault("thing 1 by 1 weight 1 worth 1; things", 2, 31);
        fault("thing 1 byby 1", 2, 8);
        fault("thi ng 1", 2, 0);
        fault("thing 1 b y 1", 2, 8);
        fault("thing 1 1 by", 2, 8);
        fault("thing 10 00 by", 2, 9);
        LargerWithin x = Due.with("thing 998 by 1 weight 1 worth 1;");
        Due.is("digits go on", x.item(8, 0), 998);
    }

    // "N (1 to 4 digits)", "(5 digits and more: at their first)"
    private static void fiveDigits() {
        sound("thing 1 by 01 weight 001 worth 0001;", 1);
        sound("thing 0999 by 0099 weight 0099 worth 0000;", 1);
        sound("box 1 by 1 lid 1 times 1 weight 1 bears 9999;", 1);
        fault("box 1 by 1 lid 1 times 1 weight 1 bears 10000;", 1, 40);
        fault("box 1 by 1 lid 1 times 1 weight 1 bears 00001;", 1, 40);
        fault("thing 00000", 1, 6);
        fault("thing 00001 by", 1, 6);
        fault("thing 123456", 1, 6);
        fault("thing " + Due.times("9", 300), 1, 6);
        fault("thing " + Due.times("0", 894), 1, 6);
        LargerWithin x = new LargerWithin();
        Due.feed(x, "thing 00001 by 1");
        Due.is("cut to four digits", x.store(10), -33);
        Due.is("it is an N out of its bounds", x.fault(1), 6);
        Due.feed(x, "thing 00001 by 1");
        Due.is("the fifth", x.store(11), -31);
    }

    // "of one TOKEN the least kind"
    private static void leastKindOfOneToken() {
        fault("99999", 1, 0);
        fault("thing 1 99999", 1, 8);
        fault("thing 99999", 1, 6);
        fault("thing 1 0", 2, 8);
        fault("thing 1 9999", 2, 8);
        fault("0", 2, 0);
        fault(Due.times(BOX, 8) + "99999", 1, 8 * BOX.length());
        fault(Due.times(BOX, 8) + "0", 2, 8 * BOX.length());
        fault(Due.times(BOX, 8) + "boxes", 2, 8 * BOX.length());
        fault(Due.times(BOX, 8) + "bo", 2, 8 * BOX.length());
        fault(Due.times(BOX, 8) + "lid", 2, 8 * BOX.length());
        for (String word : new String[] {"things", "thin", "lid", "b", "boxes", "1", ";"}) {
            fault(Due.times(THING, 16) + word, 2, 16 * THING.length());
            fault(Due.times(THING, 16) + Due.times(BOX, 8) + word, 2, 16 * THING.length() + 8 * BOX.length());
        }
    }

    // "FAULTS, the first along the text"
    private static void firstAlongTheText() {
        fault("thing ; !", 2, 6);
        fault("thing ! ;", 1, 6);
        fault("thing 0 !", 3, 6);
        fault("thing 0 by by", 3, 6);
        fault("thing 1 1 0", 2, 8);
        fault("thing 1 by 0 weight 00000", 3, 11);
        fault("thing 1000 by 100", 3, 6);
        fault(Due.times(THING, 16) + "thing 0", 4, 16 * THING.length());
        fault(Due.times(THING, 16) + "box 0" + THING, 3, 16 * THING.length() + 4);
        fault(Due.times(THING, 16) + BOX + "!thing", 1, 16 * THING.length() + BOX.length());
    }

    // "2 it can't stand there (the end: the text's length)"
    private static void theEnd() {
        for (int n = 1; n < BOX.length(); n++) {
            LargerWithin x = new LargerWithin();
            Due.feed(x, BOX);
            Due.is("a box's first " + n, x.store(n), -32);
            // a word that is cut can't stand there; else the end can't
            int begin = n;
            while (begin > 0 && isLetter(BOX.charAt(begin - 1))) begin--;
            boolean isCut = begin < n && isLetter(BOX.charAt(n));
            Due.is("its place, " + n, x.fault(1), isCut ? begin : n);
        }
        sound(BOX, 1);
        sound(BOX + " \n ", 1);
        fault(BOX.replace(";", " "), 2, BOX.length());
        fault(BOX.replace(";", "  \n "), 2, BOX.length() + 3);
        fault(BOX + "thing", 2, BOX.length() + 5);
        fault(BOX + BOX + THING + "box \n", 2, 2 * BOX.length() + THING.length() + 5);
        sound("", 0);
        fault(";", 2, 0);
        fault(BOX + ";", 2, BOX.length());
        fault(BOX + " ; ", 2, BOX.length() + 1);
    }

    // "LINE: box N by N lid N times N weight N bears N | thing N by N weight N worth N"
    private static void everyWordInEveryPlace() {
        String[] box = "box 1 by 1 lid 1 times 1 weight 1 bears 1 ;".split(" ");
        String[] thing = "thing 1 by 1 weight 1 worth 1 ;".split(" ");
        String[] tokens = {"box", "thing", "by", "lid", "times", "weight", "bears", "worth", "1", ";"};
        for (String[] line : new String[][] {box, thing}) {
            StringBuilder ahead = new StringBuilder(THING);
            for (int k = 0; k < line.length; k++) {
                for (String token : tokens) {
                    boolean stands = token.equals(line[k]) || k == 0 && (token.equals("box") || token.equals("thing"));
                    if (!stands) fault(ahead + token + " ", 2, ahead.length());
                }
                ahead.append(line[k]).append(' ');
            }
        }
        sound(THING + BOX + THING + BOX, 4);
    }

    private static void everyLetterOfEveryWord() {
        for (String line : new String[] {BOX, THING}) {
            for (int at = 0; at < line.length(); at++) {
                if (!isLetter(line.charAt(at))) continue;
                int begin = at;
                while (begin > 0 && isLetter(line.charAt(begin - 1))) begin--;
                char other = line.charAt(at) == 'z' ? 'a' : (char) (line.charAt(at) + 1);
                fault(line.substring(0, at) + other + line.substring(at + 1), 2, begin);
                // a letter too few leaves another word, or none
                String without = line.substring(0, at) + line.substring(at + 1);
                fault(without, 2, begin);
                fault(line.substring(0, at) + line.charAt(at) + line.substring(at), 2, begin);
            }
        }
    }

    private static void bound(String ahead, int least, int most, String behind) {
        sound(ahead + least + behind, 1);
        sound(ahead + most + behind, 1);
        if (least > 0) fault(ahead + (least - 1) + behind, 3, ahead.length());
        if (least > 0) fault(ahead + "0000" + behind, 3, ahead.length());
        fault(ahead + (most + 1) + behind, most < 9999 ? 3 : 1, ahead.length());
        if (most < 9999) fault(ahead + 9999 + behind, 3, ahead.length());
    }

    // "its SIZE outside 1 to 99 .. worth 0 to 99", "3 an N out of its bounds"
    private static void numbersBounds() {
        bound("box ", 1, 99, " by 1 lid 1 times 1 weight 1 bears 1;");
        bound("box 1 by ", 1, 99, " lid 1 times 1 weight 1 bears 1;");
        bound("box 1 by 1 lid ", 1, 99, " times 1 weight 1 bears 1;");
        bound("box 1 by 1 lid 1 times ", 1, 64, " weight 1 bears 1;");
        bound("box 1 by 1 lid 1 times 1 weight ", 1, 99, " bears 1;");
        bound("box 1 by 1 lid 1 times 1 weight 1 bears ", 1, 9999, ";");
        bound("thing ", 1, 999, " by 1 weight 1 worth 1;");
        bound("thing 1 by ", 1, 99, " weight 1 worth 1;");
        bound("thing 1 by 1 weight ", 1, 99, " worth 1;");
        bound("thing 1 by 1 weight 1 worth ", 0, 99, ";");
        LargerWithin x = Due.with(Due.box(99, 98, 97, 64, 96, 9999) + Due.thing(999, 99, 98, 97));
        int[] box = {99, 98, 96, 0, 97, 64, 9999};
        int[] thing = {999, 99, 98, 97, 0, 0, 0};
        for (int what = 0; what < 7; what++) {
            Due.is("greatest BOX " + what, x.item(0, what), box[what]);
            Due.is("greatest THING " + what, x.item(8, what), thing[what]);
        }
    }

    // "8 at most", "4 the first TOKEN of a 9th box"
    private static void ninthBox() {
        sound(Due.times(BOX, 8), 8);
        fault(Due.times(BOX, 9), 4, 8 * BOX.length());
        fault(Due.times(BOX, 8) + "box", 4, 8 * BOX.length());
        fault(Due.times(BOX, 8) + " \nbox 0", 4, 8 * BOX.length() + 2);
        fault(Due.times(BOX, 8) + THING + "box!", 4, 8 * BOX.length() + THING.length());
        fault(BOX + THING + Due.times(BOX, 8), 4, 8 * BOX.length() + THING.length());
        sound(Due.times(BOX, 4) + THING + Due.times(BOX, 4) + THING, 10);
    }

    // "16 at most", "a 17th thing"
    private static void seventeenthThing() {
        sound(Due.times(THING, 16), 16);
        fault(Due.times(THING, 17), 4, 16 * THING.length());
        fault(Due.times(THING, 16) + "thing", 4, 16 * THING.length());
        fault(Due.times(THING, 16) + BOX + "thing;", 4, 16 * THING.length() + BOX.length());
        sound(Due.times(THING, 16) + Due.times(BOX, 8), 24);
        fault(Due.times(THING, 16) + Due.times(BOX, 8) + "box", 4, 16 * THING.length() + 8 * BOX.length());
        fault(Due.times(THING, 16) + Due.times(BOX, 8) + "thing", 4, 16 * THING.length() + 8 * BOX.length());
    }

    // "Of the latest store() that was read, what 0: its FAULT (0), 1: its place (NONE). NONE for others."
    private static void latestThatWasRead() {
        LargerWithin x = new LargerWithin();
        for (int what : new int[] {-1, 2, 3, MIN, MAX}) Due.is("what " + what, x.fault(what), -1);
        Due.is("a FAULT", Due.read(x, "thing 0"), -33);
        for (int what : new int[] {-1, 2, 3, MIN, MAX}) Due.is("with a FAULT, what " + what, x.fault(what), -1);
        Due.is("not read", x.store(1), -3);
        Due.is("not read either", x.store(-1), -3);
        Due.is("the FAULT stays", x.fault(0), 3);
        Due.is("its place stays", x.fault(1), 6);
        Due.is("a FAULT at 0", Due.read(x, "!"), -31);
        Due.is("it is of another kind", x.fault(0), 1);
        Due.is("its place is 0", x.fault(1), 0);
        Due.is("nothing is read", x.store(0), 0);
        Due.is("then there is no FAULT", x.fault(0), 0);
        Due.is("and no place", x.fault(1), -1);
    }

    // "BOXES are ITEMS 0, 1 .. as they come", "THINGS are ITEMS 8, 9 .. as they come", "-2"
    private static void itemNumbers() {
        LargerWithin x = Due.with(Due.thing(11, 1, 1, 1) + Due.box(21, 1, 1, 1, 1, 1) + Due.thing(12, 1, 1, 1) + Due.box(22, 1, 1, 1, 1, 1) + Due.thing(13, 1, 1, 1));
        Due.is("BOX 0", x.item(0, 0), 21);
        Due.is("BOX 1", x.item(1, 0), 22);
        for (int k = 0; k < 3; k++) Due.is("THING " + k, x.item(8 + k, 0), 11 + k);
        for (int i : new int[] {-1, 2, 3, 7, 11, 12, 23, 24, 31, 32, 33, 40, 256, 264, MIN, MIN + 8, MAX}) Due.is("no ITEM " + i, x.item(i, 0), -2);
        LargerWithin things = Due.with(THING);
        Due.is("no BOX", things.item(0, 0), -2);
        Due.is("a THING", things.item(8, 0), 1);
        LargerWithin boxes = Due.with(BOX);
        Due.is("a BOX", boxes.item(0, 0), 1);
        Due.is("no THING", boxes.item(8, 0), -2);
        Due.read(boxes, THING);
        Due.is("the BOX is there no more", boxes.item(0, 0), -2);
    }

    private static void itemOfFullStore() {
        StringBuilder text = new StringBuilder();
        for (int b = 0; b < 8; b++) text.append(Due.box(b + 1, 1, 1, 1, 1, 1));
        for (int t = 0; t < 16; t++) text.append(Due.thing(t + 101, 1, 1, 1));
        LargerWithin x = Due.with(text.toString());
        for (int b = 0; b < 8; b++) Due.is("BOX " + b, x.item(b, 0), b + 1);
        for (int t = 0; t < 16; t++) Due.is("THING " + t, x.item(8 + t, 0), t + 101);
        Due.is("no 25th", x.item(24, 0), -2);
        Due.is("none ahead", x.item(-1, 0), -2);
        Due.is("BOXES", x.count(0), 8);
        Due.is("THINGS", x.count(1), 16);
        Due.is("LINES", x.count(2), 24);
    }

    private static void itemWhat() {
        LargerWithin x = Due.with(BOX + THING);
        for (int i : new int[] {0, 8}) {
            Due.isTrue("what 0 of " + i, x.item(i, 0) >= 0);
            Due.isTrue("what 6 of " + i, x.item(i, 6) >= 0);
            for (int what : new int[] {-1, 7, 8, 10, 32, MIN, MAX}) Due.is("what " + what + " of " + i, x.item(i, what), -2);
        }
    }
}
