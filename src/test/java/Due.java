/** What the tests share: counting wrong answers, feeding a text. */
final class Due {
    private static int wrong = 0;
    private static int asked = 0;

    private Due() { }

    static void is(String what, long got, long want) {
        asked++;
        if (got != want) {
            wrong++;
            System.out.println(what + " answered " + got + ", due is " + want);
        }
    }

    static void isTrue(String what, boolean holds) { is(what, holds ? 1 : 0, 1); }

    static void end(String name) {
        System.out.println(name + ": " + asked + " asked, " + wrong + " wrong");
        if (wrong != 0) System.exit(1);
    }

    /** Feeds a text, with blanks behind it up to twenty bytes. */
    static void feed(LargerWithin x, String text) {
        for (int at = 0; at < text.length(); at += 20) {
            int[] v = new int[5];
            for (int k = 0; k < 20; k++) {
                v[k / 4] = v[k / 4] << 8 | (at + k < text.length() ? text.charAt(at + k) : 32);
            }
            x.feed(v[0], v[1], v[2], v[3], v[4]);
        }
    }

    static int read(LargerWithin x, String text) {
        feed(x, text);
        return x.store(text.length());
    }

    static LargerWithin with(String text) {
        LargerWithin x = new LargerWithin();
        int lines = read(x, text);
        isTrue("the text is read: " + text, lines >= 0);
        return x;
    }

    static void row(LargerWithin x, int row, int sort, long... numbers) {
        x.numbers(row, sort, numbers.length);
        for (int k = 0; k < numbers.length; k++) x.write(row, k, numbers[k]);
    }

    static String times(String line, int n) { return line.repeat(n); }

    static String box(int size, int outline, int lid, int factor, int weight, int bears) {
        return "box " + size + " by " + outline + " lid " + lid + " times " + factor + " weight " + weight + " bears " + bears + ";";
    }

    static String thing(int size, int outline, int weight, int worth) {
        return "thing " + size + " by " + outline + " weight " + weight + " worth " + worth + ";";
    }
}
