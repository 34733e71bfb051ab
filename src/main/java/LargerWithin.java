import java.util.Arrays;

/**
 * Boxes that hold more than they are, and things: read from a text, packed by hand, judged, sought.
 * The numbered promises of the document are kept here; a refused call answers by a code below 0.
 */
public final class LargerWithin {
    public static final int NONE = -1;

    private static final int NO_SUCH = -2;
    private static final int BAD_NUMBER = -3;
    private static final int TOO_MANY = -4;
    private static final int NOT_NOW = -5;
    private static final int MISSING = -6;
    private static final int NO_PLACE = -7;
    private static final int IN_ITSELF = -8;
    private static final int LID_TOO_SMALL = -9;
    private static final int TOO_HEAVY = -10;
    private static final int NO_ROOM = -11;
    private static final int BAD_TEXT = -30;

    private static final int MAX_BOXES = 8;
    private static final int MAX_THINGS = 16;
    private static final int MAX_ITEMS = 24;
    private static final int MAX_TEXT = 900;
    private static final int MAX_ROWS = 4;
    private static final int MAX_NUMBERS = 40;
    private static final int MAX_IMAGES = 2;
    private static final int MAX_HALVED = 9;
    private static final int MAX_FACTOR = 64;
    private static final int MAX_SIZE = 99;
    private static final int MAX_TIMES = 60;
    private static final int MAX_HOUSEHOLD = 10;
    private static final int MAX_SHUT = 6;
    private static final int MAX_CHEST = 12;
    private static final int MAX_VOYAGE = 5;
    /** Where the told numbers of a list (a BOX's ITEMS, a voyage) begin among the values of "what". */
    private static final int LISTED = 10;

    private static final int SIZE = 0;
    private static final int OUTLINE = 1;
    private static final int WEIGHT = 2;
    private static final int WORTH = 3;
    private static final int LID = 4;
    private static final int FACTOR = 5;
    private static final int BEARS = 6;
    private static final int KINDS = 7;

    private final Store store;
    private final Layout layout;
    private final Layout trial;
    private final Reader reader;
    private final Row[] rows;
    private final Store[] imageStores;
    private final Layout[] imageLayouts;
    private final boolean[] imageMade;
    private final Packing told;
    private final Picked picked;
    private final Household homes;
    private final Shutting shutting;
    private final Chest weighed;
    private final Nest nesting;
    private final Voyage journey;

    public LargerWithin() {
        store = new Store();
        layout = new Layout(store);
        trial = new Layout(store);
        reader = new Reader();
        rows = new Row[MAX_ROWS];
        for (int r = 0; r < MAX_ROWS; r++) {
            rows[r] = new Row();
        }
        imageStores = new Store[MAX_IMAGES];
        imageLayouts = new Layout[MAX_IMAGES];
        imageMade = new boolean[MAX_IMAGES];
        for (int i = 0; i < MAX_IMAGES; i++) {
            imageStores[i] = new Store();
            imageLayouts[i] = new Layout(imageStores[i]);
        }
        told = new Packing(store);
        picked = new Picked(store);
        homes = new Household(store, picked);
        shutting = new Shutting(store);
        weighed = new Chest(picked);
        nesting = new Nest(store);
        journey = new Voyage(store, layout);
    }

    // ---- the store

    public int feed(int a, int b, int c, int d, int e) {
        if (!reader.hasPlaceFor(20)) {
            return NOT_NOW;
        }
        reader.append(a);
        reader.append(b);
        reader.append(c);
        reader.append(d);
        reader.append(e);
        return reader.length();
    }

    public int store(int n) {
        if (n < 0 || n > reader.length()) {
            return BAD_NUMBER;
        }
        reader.read(n);
        if (reader.faultKind() != 0) {
            return BAD_TEXT - reader.faultKind();
        }
        store.takeFrom(reader.fresh());
        layout.clear();
        return store.itemCount();
    }

    public int fault(int what) {
        if (what == 0) {
            return reader.faultKind();
        }
        return what == 1 ? reader.faultPlace() : NONE;
    }

    public int item(int i, int what) {
        if (!store.hasItem(i) || what < 0 || what >= KINDS) {
            return NO_SUCH;
        }
        return store.told(i, what);
    }

    // ---- where all lies

    public int lies(int i, int what) {
        if (!store.hasItem(i)) {
            return NO_SUCH;
        }
        switch (what) {
            case 0:
                return layout.boxOf(i);
            case 1:
                return layout.liftings(i, 0);
            case 2:
                return layout.heftOf(i);
            case 3:
                return layout.around(i);
            default:
                return NO_SUCH;
        }
    }

    public int box(int b, int what) {
        if (!store.hasBox(b)) {
            return NO_SUCH;
        }
        if (what >= LISTED) {
            int found = layout.itemAtLevel(b, what - LISTED);
            return found == NONE ? NO_PLACE : found;
        }
        switch (what) {
            case 0:
                return layout.roomOf(b);
            case 1:
                return layout.fillOf(b);
            case 2:
                return layout.loadOf(b);
            case 3:
                return layout.halvedOf(b);
            case 4:
                return layout.manyIn(b);
            default:
                return NO_SUCH;
        }
    }

    public int may(int i, int b) {
        if (!store.hasItem(i) || !store.hasBox(b)) {
            return NO_SUCH;
        }
        return layout.whyNotPut(i, b);
    }

    public int put(int i, int b) {
        int why = may(i, b);
        if (why != 0) {
            return why;
        }
        layout.lay(i, b);
        return layout.manyIn(b);
    }

    public int take(int i) {
        if (!store.hasItem(i)) {
            return NO_SUCH;
        }
        if (layout.whyNotTaken(i) != 0) {
            return NOT_NOW;
        }
        int was = layout.boxOf(i);
        layout.lift(i);
        return was;
    }

    public int empty() {
        int were = layout.manyPacked();
        layout.clear();
        return were;
    }

    public int over(int i, int k) {
        if (!store.hasItem(i)) {
            return NO_SUCH;
        }
        return layout.itemOver(i, k);
    }

    public int judge(int row, int what) {
        if (!isRow(row) || what < 0 || what > 2) {
            return NO_SUCH;
        }
        Row acts = rows[row];
        if (acts.isMissing()) {
            return MISSING;
        }
        trial.takeFrom(layout);
        int done = trial.doActs(acts);
        if (what == 0) {
            return done < acts.many() ? done : NONE;
        }
        return what == 1 ? trial.whyStopped() : trial.manyPacked();
    }

    public int perform(int row) {
        int refusal = rowRefusal(row);
        return refusal != 0 ? refusal : layout.doActs(rows[row]);
    }

    // ---- told packings

    public int packing(int row, int what) {
        if (!isRow(row) || what < 0 || what > 1) {
            return NO_SUCH;
        }
        int refusal = packingRefusal(row);
        if (refusal != 0) {
            return refusal;
        }
        told.read(rows[row]);
        told.findWrong();
        return what == 0 ? told.wrong() : told.culprit();
    }

    public int how(int row, int k) {
        int refusal = packingRefusal(row);
        if (refusal != 0) {
            return refusal;
        }
        told.read(rows[row]);
        told.findWrong();
        if (told.wrong() != 0) {
            return NOT_NOW;
        }
        return k == NONE ? told.manyPacked() : told.act(k);
    }

    public int lost(int row) {
        int refusal = packingRefusal(row);
        if (refusal != 0) {
            return refusal;
        }
        return told.read(rows[row]) ? told.lostBits() : BAD_NUMBER;
    }

    // ---- sought

    public int most(int b, int set, int what) {
        if (!store.hasBox(b) || what < 0 || what > 1) {
            return NO_SUCH;
        }
        if (!hasOnly(set, store.itemBits())) {
            return BAD_NUMBER;
        }
        picked.pick(layout.onFloor(set & store.thingBits()), MAX_HOUSEHOLD);
        int best = picked.worthiest(store.told(b, LID), layout.spareLoad(b), layout.roomOf(b) - layout.fillOf(b));
        return what == 0 ? picked.worth(best) : picked.bits(best);
    }

    public int household(int set, boolean lightest, int what) {
        if (what < 0 || what > 2) {
            return NO_SUCH;
        }
        if (!isThingSet(set, MAX_HOUSEHOLD)) {
            return BAD_NUMBER;
        }
        int boxes = homes.seek(set, lightest);
        if (boxes == NONE) {
            return NONE;
        }
        if (what == 0) {
            return Integer.bitCount(boxes);
        }
        return what == 1 ? store.weightOfBoxes(boxes) : boxes;
    }

    public int holds(int set, boolean lightest, int i) {
        if (!isItemOf(i, set)) {
            return NO_SUCH;
        }
        if (!isThingSet(set, MAX_HOUSEHOLD)) {
            return BAD_NUMBER;
        }
        int boxes = homes.seek(set, lightest);
        return boxes == NONE ? NONE : homes.boxFor(i, boxes);
    }

    public int shut(int b, int set) {
        if (!store.hasBox(b)) {
            return NO_SUCH;
        }
        if (!canBeShut(b, set)) {
            return BAD_NUMBER;
        }
        shutting.seek(b, set, false);
        return shutting.ways();
    }

    public int shutIn(int b, int set, int i) {
        if (!store.hasBox(b) || !isItemOf(i, set)) {
            return NO_SUCH;
        }
        if (!canBeShut(b, set)) {
            return BAD_NUMBER;
        }
        shutting.seek(b, set, true);
        return shutting.ways() == 0 ? NONE : shutting.boxOf(i);
    }

    public int even(int b, int other, int set, int what) {
        if (!store.hasBox(b) || !store.hasBox(other) || b == other || what < 0 || what > 1) {
            return NO_SUCH;
        }
        if (!isThingSet(set, MAX_HOUSEHOLD)) {
            return BAD_NUMBER;
        }
        picked.pick(set, MAX_HOUSEHOLD);
        int first = picked.evenest(b, other);
        if (first == NONE) {
            return NONE;
        }
        return what == 0 ? picked.worthApart(first) : picked.bits(first);
    }

    public int lightestFor(int i) {
        if (!store.hasItem(i)) {
            return NO_SUCH;
        }
        int lightest = NONE;
        for (int b = 0; b < store.boxes(); b++) {
            boolean lighter = lightest == NONE || store.told(b, WEIGHT) < store.told(lightest, WEIGHT);
            if (lighter && b != i && store.takesAlone(i, b)) {
                lightest = b;
            }
        }
        return lightest;
    }

    public int nest(int k) {
        nesting.seek();
        return k == NONE ? nesting.many() : nesting.boxAt(k);
    }

    public int voyage(int row) {
        int refusal = rowRefusal(row);
        if (refusal != 0) {
            return refusal;
        }
        return journey.areItems(rows[row], MAX_NUMBERS) ? journey.liftingsAsTold(rows[row]) : BAD_NUMBER;
    }

    public int voyages(int row, int what) {
        boolean isListed = what >= LISTED && what < LISTED + MAX_VOYAGE;
        if (!isRow(row) || what != 0 && !isListed) {
            return NO_SUCH;
        }
        if (rows[row].isMissing()) {
            return MISSING;
        }
        if (!journey.areItems(rows[row], MAX_VOYAGE)) {
            return BAD_NUMBER;
        }
        journey.seek(rows[row]);
        return what == 0 ? journey.fewest() : journey.itemAt(what - LISTED);
    }

    public int chest(int b, int set, int n, int w) {
        int refusal = weighIfSound(b, set, n, w);
        return refusal != 0 ? refusal : weighed.found();
    }

    public int sure(int b, int set, int n, int w, boolean isIn) {
        int refusal = weighIfSound(b, set, n, w);
        if (refusal != 0) {
            return refusal;
        }
        return isIn ? weighed.surelyIn() : weighed.surelyOut();
    }

    public int look(int b, int set, int n, int w) {
        int refusal = weighIfSound(b, set, n, w);
        return refusal != 0 ? refusal : weighed.bestLook();
    }

    public int looks(int b, int set, int n, int w) {
        int refusal = weighIfSound(b, set, n, w);
        return refusal != 0 ? refusal : weighed.looksNeeded();
    }

    public int sounded(int b, int set, int w, int f) {
        if (!store.hasBox(b)) {
            return NO_SUCH;
        }
        if (!hasOnly(set, store.thingBits()) || w < 0 || f < 0) {
            return BAD_NUMBER;
        }
        weighed.sound(b, set, w, f);
        return weighed.found();
    }

    public int needs(int b) {
        if (!store.hasBox(b)) {
            return NO_SUCH;
        }
        int halved = layout.halvedOf(b);
        int fill = layout.fillOf(b);
        for (int factor = 1; factor <= MAX_FACTOR; factor++) {
            if (roomBy(store.told(b, SIZE), factor, halved) >= fill) {
                return factor;
            }
        }
        return NONE;
    }

    public int room(int size, int factor, int halved) {
        boolean isBox = size >= 1 && size <= MAX_SIZE && factor >= 1 && factor <= MAX_FACTOR;
        if (!isBox || halved < 0 || halved > MAX_HALVED) {
            return BAD_NUMBER;
        }
        return roomBy(size, factor, halved);
    }

    public int deepest(int b) {
        if (!store.hasBox(b)) {
            return NO_SUCH;
        }
        int fill = layout.fillOf(b);
        for (int halved = MAX_HALVED; halved >= 0; halved--) {
            if (store.roomOf(b, halved) >= fill) {
                return halved;
            }
        }
        return NONE;
    }

    public int carriers(int seed, int times) {
        int items = store.itemCount();
        if (items <= 0) {
            return NOT_NOW;
        }
        if (times < 1 || times > MAX_TIMES) {
            return BAD_NUMBER;
        }
        int x = seed;
        int moved = 0;
        for (int t = 0; t < times; t++) {
            x = drawAfter(x);
            int i = store.itemAt((x >>> 16) % items);
            if (layout.boxOf(i) != NONE) {
                moved += carryOut(i);
            } else if (store.boxes() > 0) {
                x = drawAfter(x);
                moved += carryIn(i, (x >>> 16) % store.boxes());
            }
        }
        return moved;
    }

    // ---- rows of numbers, images

    public int numbers(int row, int sort, int n) {
        if (!isRow(row) || sort < 0 || sort > 3) {
            return NO_SUCH;
        }
        if (n < 0 || n > MAX_NUMBERS) {
            return BAD_NUMBER;
        }
        rows[row].begin(sort, n);
        return 0;
    }

    public long write(int row, int i, long v) {
        int refusal = rowRefusal(row);
        if (refusal != 0) {
            return refusal;
        }
        if (!rows[row].hasPlace(i)) {
            return NO_PLACE;
        }
        rows[row].set(i, v);
        return rows[row].get(i);
    }

    public int copy(int row) {
        int refusal = rowRefusal(row);
        if (refusal != 0) {
            return refusal;
        }
        int items = store.itemCount();
        if (rows[row].many() < items) {
            return NO_PLACE;
        }
        for (int place = 0; place < items; place++) {
            rows[row].set(place, layout.boxOf(store.itemAt(place)));
        }
        return items;
    }

    public int image(int i) {
        if (!isImage(i)) {
            return NO_SUCH;
        }
        imageStores[i].takeFrom(store);
        imageLayouts[i].takeFrom(layout);
        imageMade[i] = true;
        return 0;
    }

    public int restore(int i) {
        if (!isImage(i)) {
            return NO_SUCH;
        }
        if (!imageMade[i]) {
            return NOT_NOW;
        }
        store.takeFrom(imageStores[i]);
        layout.takeFrom(imageLayouts[i]);
        return 0;
    }

    public int count(int what) {
        switch (what) {
            case 0:
                return store.boxes();
            case 1:
                return store.things();
            case 2:
                return store.itemCount();
            case 3:
                return layout.manyPacked();
            case 4:
                return reader.length();
            case 5:
                return layout.worthPacked();
            default:
                return NONE;
        }
    }

    // ---- what the calls share

    private static boolean isRow(int row) {
        return row >= 0 && row < MAX_ROWS;
    }

    private static boolean isImage(int i) {
        return i >= 0 && i < MAX_IMAGES;
    }

    private static boolean hasOnly(int set, int allowed) {
        return (set & ~allowed) == 0;
    }

    private static int roomBy(int size, int factor, int halved) {
        return size * factor >> halved;
    }

    private static int drawAfter(int x) {
        return 1103515245 * x + 12345;
    }

    private int rowRefusal(int row) {
        if (!isRow(row)) {
            return NO_SUCH;
        }
        return rows[row].isMissing() ? MISSING : 0;
    }

    private int packingRefusal(int row) {
        int refusal = rowRefusal(row);
        if (refusal != 0) {
            return refusal;
        }
        return rows[row].many() != store.itemCount() ? NO_PLACE : 0;
    }

    /** Why such a chest can't be, or 0: then "weighed" tells of it. */
    private int weighIfSound(int b, int set, int n, int w) {
        if (!store.hasBox(b)) {
            return NO_SUCH;
        }
        if (!hasOnly(set, store.thingBits()) || n < 0 || n > MAX_CHEST || w < 0) {
            return BAD_NUMBER;
        }
        weighed.weigh(b, set, n, w);
        return 0;
    }

    private boolean isThingSet(int set, int atMost) {
        return hasOnly(set, store.thingBits()) && Integer.bitCount(set) <= atMost;
    }

    private boolean isItemOf(int i, int set) {
        return store.hasItem(i) && (set >> i & 1) != 0;
    }

    private boolean canBeShut(int b, int set) {
        return hasOnly(set, store.itemBits()) && Integer.bitCount(set) <= MAX_SHUT && (set >> b & 1) == 0;
    }

    private int carryOut(int i) {
        if (layout.whyNotTaken(i) != 0) {
            return 0;
        }
        layout.lift(i);
        return 1;
    }

    private int carryIn(int i, int b) {
        if (layout.whyNotPut(i, b) != 0) {
            return 0;
        }
        layout.lay(i, b);
        return 1;
    }

    /** What the text told: BOXES are ITEMS 0 to 7, THINGS 8 to 23. */
    private static final class Store {
        private final int[] values = new int[MAX_ITEMS * KINDS];
        private int boxes;
        private int things;

        void clear() {
            Arrays.fill(values, 0);
            boxes = 0;
            things = 0;
        }

        void takeFrom(Store other) {
            System.arraycopy(other.values, 0, values, 0, MAX_ITEMS * KINDS);
            boxes = other.boxes;
            things = other.things;
        }

        int boxes() {
            return boxes;
        }

        int things() {
            return things;
        }

        int itemCount() {
            return boxes + things;
        }

        /** Numbers of ROWS come as longs, and must not be cut before they are looked at. */
        boolean hasBox(long b) {
            return b >= 0 && b < boxes;
        }

        boolean hasItem(long i) {
            return hasBox(i) || i >= MAX_BOXES && i < MAX_BOXES + things;
        }

        int boxBits() {
            return (1 << boxes) - 1;
        }

        int thingBits() {
            return (1 << things) - 1 << MAX_BOXES;
        }

        int itemBits() {
            return boxBits() | thingBits();
        }

        int itemAt(int place) {
            return place < boxes ? place : MAX_BOXES + place - boxes;
        }

        int told(int i, int kind) {
            if (i < 0 || i >= MAX_ITEMS || kind < 0 || kind >= KINDS) {
                return 0;
            }
            return values[i * KINDS + kind];
        }

        void tell(int i, int kind, int value) {
            if (i >= 0 && i < MAX_ITEMS && kind >= 0 && kind < KINDS) {
                values[i * KINDS + kind] = value;
            }
        }

        int roomOf(int b, int halved) {
            return roomBy(told(b, SIZE), told(b, FACTOR), halved);
        }

        boolean takesAlone(int i, int b) {
            int halved = hasBox(i) ? 1 : 0;
            return told(i, OUTLINE) <= told(b, LID) && told(i, WEIGHT) <= told(b, BEARS)
                    && told(i, SIZE) <= roomOf(b, halved);
        }

        int weightOfBoxes(int bits) {
            int weight = 0;
            for (int b = 0; b < boxes; b++) {
                if ((bits >> b & 1) != 0) {
                    weight += told(b, WEIGHT);
                }
            }
            return weight;
        }

        /** The next line's ITEM takes its number only when the line has come to its end. */
        int nextItem(boolean isBox) {
            return isBox ? boxes : MAX_BOXES + things;
        }

        boolean isFull(boolean isBox) {
            return isBox ? boxes >= MAX_BOXES : things >= MAX_THINGS;
        }

        void keep(boolean isBox) {
            if (isFull(isBox)) {
                return;
            }
            if (isBox) {
                boxes++;
            } else {
                things++;
            }
        }
    }

    /** THE TAPE, and the reading of its text into a store of its own. */
    private static final class Reader {
        /** A line as it must go on; # stands for a number. */
        private static final String BOX_LINE = "box#by#lid#times#weight#bears#;";
        private static final String THING_LINE = "thing#by#weight#worth#;";
        private static final int[] BOX_KINDS = {SIZE, OUTLINE, LID, FACTOR, WEIGHT, BEARS};
        private static final int[] BOX_MOST = {99, 99, 99, 64, 99, 9999};
        private static final int[] THING_KINDS = {SIZE, OUTLINE, WEIGHT, WORTH};
        private static final int[] THING_MOST = {999, 99, 99, 99};
        private static final int MAX_DIGITS = 4;

        private final int[] tape = new int[MAX_TEXT];
        private final Store fresh = new Store();
        private int length;
        private int end;
        private int fault;
        private int faultPlace = NONE;
        private String line = "";
        private boolean isBox;
        private int spot;
        private int numbersRead;

        boolean hasPlaceFor(int bytes) {
            return length + bytes <= MAX_TEXT;
        }

        void append(int four) {
            for (int shift = 24; shift >= 0 && length < MAX_TEXT; shift -= 8) {
                tape[length] = four >>> shift & 255;
                length++;
            }
        }

        int length() {
            return length;
        }

        int faultKind() {
            return fault;
        }

        int faultPlace() {
            return faultPlace;
        }

        Store fresh() {
            return fresh;
        }

        void read(int n) {
            fresh.clear();
            fault = 0;
            faultPlace = NONE;
            line = "";
            end = Math.min(n, MAX_TEXT);
            length = 0;
            for (int at = 0; at < end && fault == 0; at++) {
                if (beginsToken(at)) {
                    readToken(at);
                }
            }
            if (fault == 0 && !line.isEmpty()) {
                blame(2, end);
            }
        }

        private void blame(int kind, int place) {
            fault = kind;
            faultPlace = place;
        }

        private int sign(int at) {
            return at >= 0 && at < end ? tape[at] : 0;
        }

        private static boolean isLetter(int sign) {
            return sign >= 'a' && sign <= 'z';
        }

        private static boolean isDigit(int sign) {
            return sign >= '0' && sign <= '9';
        }

        private boolean beginsToken(int at) {
            int here = sign(at);
            int ahead = sign(at - 1);
            boolean goesOn = isLetter(here) && isLetter(ahead) || isDigit(here) && isDigit(ahead);
            return here != 10 && here != 32 && !goesOn;
        }

        private void readToken(int at) {
            int here = sign(at);
            if (isLetter(here)) {
                readWord(at);
            } else if (isDigit(here)) {
                readNumber(at);
            } else if (here == ';') {
                readStop(at);
            } else {
                blame(1, at);
            }
        }

        private void readWord(int at) {
            if (!line.isEmpty()) {
                spot = behindWord(line, spot, at);
            } else {
                beginLine(at);
            }
            if (fault == 0 && spot == NONE) {
                blame(2, at);
            }
        }

        private void beginLine(int at) {
            numbersRead = 0;
            spot = behindWord(BOX_LINE, 0, at);
            isBox = spot != NONE;
            if (!isBox) {
                spot = behindWord(THING_LINE, 0, at);
            }
            if (spot == NONE) {
                return;
            }
            line = isBox ? BOX_LINE : THING_LINE;
            if (fresh.isFull(isBox)) {
                blame(4, at);
            }
        }

        /** The spot behind the word of the pattern, if the text has that very word here; else NONE. */
        private int behindWord(String pattern, int from, int at) {
            int k = 0;
            while (k < MAX_TEXT && isLetter(sign(at + k))) {
                if (patternSign(pattern, from + k) != sign(at + k)) {
                    return NONE;
                }
                k++;
            }
            return isLetter(patternSign(pattern, from + k)) ? NONE : from + k;
        }

        private static int patternSign(String pattern, int spot) {
            return spot >= 0 && spot < pattern.length() ? pattern.charAt(spot) : 0;
        }

        private void readNumber(int at) {
            int value = 0;
            int digits = 0;
            while (digits <= MAX_DIGITS && isDigit(sign(at + digits))) {
                value = value * 10 + sign(at + digits) - '0';
                digits++;
            }
            if (digits > MAX_DIGITS) {
                blame(1, at);
            } else if (patternSign(line, spot) != '#') {
                blame(2, at);
            } else if (!isInBounds(value)) {
                blame(3, at);
            } else {
                fresh.tell(fresh.nextItem(isBox), kindOfNumber(), value);
                numbersRead++;
                spot++;
            }
        }

        private int kindOfNumber() {
            int[] kinds = isBox ? BOX_KINDS : THING_KINDS;
            return numbersRead >= 0 && numbersRead < kinds.length ? kinds[numbersRead] : NONE;
        }

        private boolean isInBounds(int value) {
            int[] most = isBox ? BOX_MOST : THING_MOST;
            if (numbersRead < 0 || numbersRead >= most.length) {
                return false;
            }
            int least = kindOfNumber() == WORTH ? 0 : 1;
            return value >= least && value <= most[numbersRead];
        }

        private void readStop(int at) {
            if (patternSign(line, spot) != ';') {
                blame(2, at);
                return;
            }
            fresh.keep(isBox);
            line = "";
        }
    }

    /** Where all lies: for each ITEM its BOX, and its level there, so that the latest has the highest. */
    private static final class Layout {
        private final Store store;
        private final int[] within = new int[MAX_ITEMS];
        private final int[] levels = new int[MAX_ITEMS];
        private int whyStopped;

        Layout(Store store) {
            this.store = store;
            Arrays.fill(within, NONE);
        }

        void clear() {
            Arrays.fill(within, NONE);
            Arrays.fill(levels, 0);
        }

        void takeFrom(Layout other) {
            System.arraycopy(other.within, 0, within, 0, MAX_ITEMS);
            System.arraycopy(other.levels, 0, levels, 0, MAX_ITEMS);
        }

        int boxOf(int i) {
            return i >= 0 && i < MAX_ITEMS ? within[i] : NONE;
        }

        /** For packings that are told all at once: nothing is said there of what lies upon what. */
        void setBox(int i, int b) {
            if (i >= 0 && i < MAX_ITEMS) {
                within[i] = b;
            }
        }

        void lay(int i, int b) {
            if (i >= 0 && i < MAX_ITEMS) {
                levels[i] = manyIn(b);
                within[i] = b;
            }
        }

        void lift(int i) {
            setBox(i, NONE);
        }

        int manyIn(int b) {
            int many = 0;
            for (int i = 0; i < MAX_ITEMS; i++) {
                if (within[i] == b) {
                    many++;
                }
            }
            return many;
        }

        int itemAtLevel(int b, int level) {
            for (int i = 0; i < MAX_ITEMS; i++) {
                if (within[i] == b && levels[i] == level) {
                    return i;
                }
            }
            return NONE;
        }

        int manyPacked() {
            return MAX_ITEMS - manyIn(NONE);
        }

        int worthPacked() {
            int worth = 0;
            for (int i = 0; i < MAX_ITEMS; i++) {
                if (within[i] != NONE) {
                    worth += store.told(i, WORTH);
                }
            }
            return worth;
        }

        int onFloor(int bits) {
            int lying = bits;
            for (int i = 0; i < MAX_ITEMS; i++) {
                if (within[i] != NONE) {
                    lying &= ~(1 << i);
                }
            }
            return lying;
        }

        /** A told packing may go round; then more BOXES than there are come out. */
        int around(int i) {
            int boxes = 0;
            for (int b = boxOf(i); b != NONE && boxes <= MAX_BOXES; b = boxOf(b)) {
                boxes++;
            }
            return boxes;
        }

        boolean isWithin(int i, int b) {
            int at = i;
            for (int steps = 0; steps < MAX_BOXES && at >= 0 && at < MAX_ITEMS; steps++) {
                at = within[at];
                if (at == b) {
                    return true;
                }
            }
            return false;
        }

        int fillOf(int b) {
            int fill = 0;
            for (int i = 0; i < MAX_ITEMS; i++) {
                if (within[i] == b) {
                    fill += store.told(i, SIZE);
                }
            }
            return fill;
        }

        int halvedOf(int b) {
            int halved = boxOf(b) == NONE ? 0 : 1;
            for (int i = 0; i < MAX_BOXES; i++) {
                if (within[i] == b) {
                    halved++;
                }
            }
            return halved;
        }

        int roomOf(int b) {
            return store.roomOf(b, halvedOf(b));
        }

        int loadOf(int b) {
            int load = 0;
            for (int i = 0; i < MAX_ITEMS; i++) {
                if (isWithin(i, b)) {
                    load += store.told(i, WEIGHT);
                }
            }
            return load;
        }

        int heftOf(int i) {
            return store.told(i, WEIGHT) + (store.hasBox(i) ? loadOf(i) : 0);
        }

        /** What may still come into a BOX, before it or one around it bears no more. */
        int spareLoad(int b) {
            int spare = store.told(b, BEARS) - loadOf(b);
            int at = boxOf(b);
            for (int steps = 0; steps < MAX_BOXES && at != NONE; steps++) {
                spare = Math.min(spare, store.told(at, BEARS) - loadOf(at));
                at = boxOf(at);
            }
            return spare;
        }

        /** How many are OVER an ITEM, if those in "gone" stand on the floor already. */
        int liftings(int i, int gone) {
            int lifted = 0;
            int at = i;
            for (int steps = 0; steps <= MAX_BOXES && at != NONE; steps++) {
                if ((gone >> at & 1) != 0) {
                    return lifted;
                }
                lifted += manyAbove(at, gone);
                at = boxOf(at);
            }
            return lifted;
        }

        private int manyAbove(int i, int gone) {
            int b = boxOf(i);
            if (b == NONE) {
                return 0;
            }
            int many = 0;
            for (int j = 0; j < MAX_ITEMS; j++) {
                if (within[j] == b && levels[j] > levels[i] && (gone >> j & 1) == 0) {
                    many++;
                }
            }
            return many;
        }

        int itemOver(int i, int k) {
            if (k < 0) {
                return NONE;
            }
            int left = k;
            for (int steps = around(i) - 1; steps >= 0; steps--) {
                int at = outward(i, steps);
                int above = manyAbove(at, 0);
                if (left < above) {
                    return itemAtLevel(boxOf(at), manyIn(boxOf(at)) - 1 - left);
                }
                left -= above;
            }
            return NONE;
        }

        private int outward(int i, int steps) {
            int at = i;
            for (int s = 0; s < steps; s++) {
                at = boxOf(at);
            }
            return at;
        }

        int whyNotPut(int i, int b) {
            if (boxOf(i) != NONE || liftings(b, 0) > 0) {
                return NOT_NOW;
            }
            if (i == b || isWithin(b, i)) {
                return IN_ITSELF;
            }
            if (store.told(i, OUTLINE) > store.told(b, LID)) {
                return LID_TOO_SMALL;
            }
            if (heftOf(i) > spareLoad(b)) {
                return TOO_HEAVY;
            }
            return hasRoomFor(i, b) ? 0 : NO_ROOM;
        }

        private boolean hasRoomFor(int i, int b) {
            int fill = fillOf(b) + store.told(i, SIZE);
            if (!store.hasBox(i)) {
                return fill <= store.roomOf(b, halvedOf(b));
            }
            return fill <= store.roomOf(b, halvedOf(b) + 1) && fillOf(i) <= store.roomOf(i, halvedOf(i) + 1);
        }

        int whyNotTaken(int i) {
            return boxOf(i) == NONE || liftings(i, 0) > 0 ? NOT_NOW : 0;
        }

        /** Does ACTS till one can't be: how many were done; whyStopped() tells of the next one. */
        int doActs(Row acts) {
            whyStopped = 0;
            for (int place = 0; place < acts.many(); place++) {
                whyStopped = doAct(acts.get(place));
                if (whyStopped != 0) {
                    return place;
                }
            }
            return acts.many();
        }

        int whyStopped() {
            return whyStopped;
        }

        private int doAct(long act) {
            boolean isTaking = act >= 1000;
            long item = isTaking ? act - 1000 : act % 100;
            long b = isTaking ? NONE : act / 100;
            if (act < 0 || !store.hasItem(item) || !isTaking && !store.hasBox(b)) {
                return NO_SUCH;
            }
            int i = (int) item;
            int why = isTaking ? whyNotTaken(i) : whyNotPut(i, (int) b);
            if (why == 0 && isTaking) {
                lift(i);
            } else if (why == 0) {
                lay(i, (int) b);
            }
            return why;
        }
    }

    /** A ROW OF NUMBERS. */
    private static final class Row {
        private final long[] cells = new long[MAX_NUMBERS];
        private int sort;
        private int many = NONE;

        void begin(int newSort, int n) {
            Arrays.fill(cells, 0);
            sort = newSort;
            many = n;
        }

        boolean isMissing() {
            return many == NONE;
        }

        int many() {
            return many;
        }

        boolean hasPlace(int i) {
            return i >= 0 && i < many && i < MAX_NUMBERS;
        }

        long get(int i) {
            return hasPlace(i) ? cells[i] : 0;
        }

        void set(int i, long v) {
            if (hasPlace(i)) {
                cells[i] = cut(v);
            }
        }

        private long cut(long v) {
            switch (sort) {
                case 0:
                    return (byte) v;
                case 1:
                    return (short) v;
                case 2:
                    return (int) v;
                default:
                    return v;
            }
        }
    }

    /** A PACKING that is told by a ROW, as numbers alone. */
    private static final class Packing {
        private final Store store;
        private final Layout told;
        private int strange;
        private int wrong;
        private int culprit;

        Packing(Store store) {
            this.store = store;
            told = new Layout(store);
        }

        /** Whether all numbers are BOXES or NONE; one that isn't is taken as NONE. */
        boolean read(Row row) {
            told.clear();
            strange = NONE;
            for (int place = 0; place < row.many(); place++) {
                long b = row.get(place);
                int i = store.itemAt(place);
                if (store.hasBox(b)) {
                    told.setBox(i, (int) b);
                } else if (b != NONE && strange == NONE) {
                    strange = i;
                }
            }
            return strange == NONE;
        }

        int wrong() {
            return wrong;
        }

        int culprit() {
            return culprit;
        }

        void findWrong() {
            wrong = 0;
            culprit = NONE;
            blame(1, strange);
            blame(2, firstInItself());
            blame(3, firstTooWide());
            blame(4, firstTooHeavy());
            blame(5, firstTooFull());
        }

        private void blame(int kind, int who) {
            if (wrong == 0 && who != NONE) {
                wrong = kind;
                culprit = who;
            }
        }

        private int firstInItself() {
            for (int b = 0; b < store.boxes(); b++) {
                if (told.isWithin(b, b)) {
                    return b;
                }
            }
            return NONE;
        }

        private int firstTooWide() {
            for (int i = 0; i < MAX_ITEMS; i++) {
                int b = told.boxOf(i);
                if (b != NONE && store.told(i, OUTLINE) > store.told(b, LID)) {
                    return i;
                }
            }
            return NONE;
        }

        private int firstTooHeavy() {
            for (int b = 0; b < store.boxes(); b++) {
                if (told.loadOf(b) > store.told(b, BEARS)) {
                    return b;
                }
            }
            return NONE;
        }

        private int firstTooFull() {
            for (int b = 0; b < store.boxes(); b++) {
                if (told.fillOf(b) > told.roomOf(b)) {
                    return b;
                }
            }
            return NONE;
        }

        int lostBits() {
            int bits = 0;
            for (int i = 0; i < MAX_ITEMS; i++) {
                if (told.around(i) > MAX_BOXES) {
                    bits |= 1 << i;
                }
            }
            return bits;
        }

        int manyPacked() {
            return told.manyPacked();
        }

        /** The k-th ACT by which the packing comes about, NONE if there are not so many. */
        int act(int k) {
            if (k < 0 || k >= told.manyPacked()) {
                return NONE;
            }
            int done = 0;
            int next = NONE;
            for (int step = 0; step <= k; step++) {
                next = firstReady(done);
                if (next == NONE) {
                    return NONE;
                }
                done |= 1 << next;
            }
            return 100 * told.boxOf(next) + next;
        }

        private int firstReady(int done) {
            for (int i = 0; i < MAX_ITEMS; i++) {
                if (told.boxOf(i) != NONE && (done >> i & 1) == 0 && hasAllOfIts(i, done)) {
                    return i;
                }
            }
            return NONE;
        }

        private boolean hasAllOfIts(int b, int done) {
            for (int i = 0; i < MAX_ITEMS; i++) {
                if (told.boxOf(i) == b && (done >> i & 1) == 0) {
                    return false;
                }
            }
            return true;
        }
    }

    /**
     * The THINGS that a search picks from, and sums over each choice of them (bits by their order here).
     * The sums stand in two tables, of the first six and of the others: one table of all would be large.
     */
    private static final class Picked {
        private static final int HALF = 6;
        private static final int HALF_SETS = 64;

        private final Store store;
        private final int[] members = new int[MAX_CHEST];
        private final int[] sizes = new int[2 * HALF_SETS];
        private final int[] outlines = new int[2 * HALF_SETS];
        private final int[] weights = new int[2 * HALF_SETS];
        private final int[] worths = new int[2 * HALF_SETS];
        private int many;

        Picked(Store store) {
            this.store = store;
        }

        void pick(int set, int atMost) {
            many = 0;
            for (int i = MAX_BOXES; i < MAX_ITEMS; i++) {
                if ((set >> i & 1) != 0 && many < atMost && many < MAX_CHEST) {
                    members[many] = i;
                    many++;
                }
            }
            sumUp(0, Math.min(many, HALF));
            sumUp(HALF, many - HALF);
        }

        private void sumUp(int from, int howMany) {
            int base = from == 0 ? 0 : HALF_SETS;
            for (int k = 0; k < howMany && k < HALF; k++) {
                int thing = memberAt(from + k);
                for (int rest = 0; rest < 1 << k; rest++) {
                    sumUpOne(base + rest, base + rest + (1 << k), thing);
                }
            }
        }

        private void sumUpOne(int without, int with, int thing) {
            sizes[with] = sizes[without] + store.told(thing, SIZE);
            outlines[with] = Math.max(outlines[without], store.told(thing, OUTLINE));
            weights[with] = weights[without] + store.told(thing, WEIGHT);
            worths[with] = worths[without] + store.told(thing, WORTH);
        }

        int many() {
            return many;
        }

        int choices() {
            return 1 << many;
        }

        int memberAt(int k) {
            return k >= 0 && k < many && k < MAX_CHEST ? members[k] : NONE;
        }

        private static int low(int choice) {
            return choice & HALF_SETS - 1;
        }

        private static int high(int choice) {
            return HALF_SETS + (choice >> HALF & HALF_SETS - 1);
        }

        int size(int choice) {
            return sizes[low(choice)] + sizes[high(choice)];
        }

        int outline(int choice) {
            return Math.max(outlines[low(choice)], outlines[high(choice)]);
        }

        int weight(int choice) {
            return weights[low(choice)] + weights[high(choice)];
        }

        int worth(int choice) {
            return worths[low(choice)] + worths[high(choice)];
        }

        boolean passes(int choice, int lid, int bears, int room) {
            return outline(choice) <= lid && weight(choice) <= bears && size(choice) <= room;
        }

        /** Whether all of a choice could be PUT IN a BOX that is empty and on the floor. */
        boolean goInto(int choice, int b) {
            return passes(choice, store.told(b, LID), store.told(b, BEARS), store.roomOf(b, 0));
        }

        /** The choice as bits by ITEMS' numbers. */
        int bits(int choice) {
            int bits = 0;
            for (int k = 0; k < many; k++) {
                if ((choice >> k & 1) != 0) {
                    bits |= 1 << memberAt(k);
                }
            }
            return bits;
        }

        int worthiest(int lid, int bears, int room) {
            int best = 0;
            for (int choice = 1; choice < choices(); choice++) {
                if (worth(choice) > worth(best) && passes(choice, lid, bears, room)) {
                    best = choice;
                }
            }
            return best;
        }

        int evenest(int b, int other) {
            int all = choices() - 1;
            int best = NONE;
            for (int choice = 0; choice <= all; choice++) {
                boolean better = best == NONE || worthApart(choice) < worthApart(best);
                if (better && goInto(choice, b) && goInto(all ^ choice, other)) {
                    best = choice;
                }
            }
            return best;
        }

        int worthApart(int choice) {
            return Math.abs(worth(choice) - worth(choices() - 1 ^ choice));
        }
    }

    /** BOXES for a household: by prices in which what counts first stands in the highest bits. */
    private static final class Household {
        private static final int MAX_CHOICES = 1 << MAX_HOUSEHOLD;
        private static final int NEVER = 1 << 30;

        private final Store store;
        private final Picked picked;
        /** For each choice of the THINGS, as bits, the BOXES that take it; and the least price found. */
        private final int[] takers = new int[MAX_CHOICES];
        private final int[] prices = new int[MAX_CHOICES];
        /** For each choice, as bits, from which places of the row of BOXES on it can't be taken. */
        private final int[] hopeless = new int[MAX_CHOICES];
        private final int[] lids = new int[MAX_BOXES];
        private final int[] bearings = new int[MAX_BOXES];
        private final int[] rooms = new int[MAX_BOXES];
        private final int[] row = new int[MAX_BOXES];
        private int rowLength;

        Household(Store store, Picked picked) {
            this.store = store;
            this.picked = picked;
        }

        /** The BOXES that are the household's, as bits; NONE if there are none that do. */
        int seek(int set, boolean lightest) {
            picked.pick(set, MAX_HOUSEHOLD);
            int all = picked.choices() - 1;
            noteTakers();
            Arrays.fill(prices, NEVER);
            prices[0] = 0;
            for (int b = 0; b < store.boxes(); b++) {
                offer(b, priceOf(b, lightest), all);
            }
            return prices[all] == NEVER ? NONE : prices[all] & (1 << MAX_BOXES) - 1;
        }

        private void noteTakers() {
            for (int b = 0; b < store.boxes() && b < MAX_BOXES; b++) {
                lids[b] = store.told(b, LID);
                bearings[b] = store.told(b, BEARS);
                rooms[b] = store.roomOf(b, 0);
            }
            for (int choice = 0; choice < picked.choices() && choice < MAX_CHOICES; choice++) {
                takers[choice] = takersOf(picked.outline(choice), picked.weight(choice), picked.size(choice));
            }
        }

        private int takersOf(int outline, int weight, int size) {
            int bits = 0;
            for (int b = 0; b < store.boxes() && b < MAX_BOXES; b++) {
                if (outline <= lids[b] && weight <= bearings[b] && size <= rooms[b]) {
                    bits |= 1 << b;
                }
            }
            return bits;
        }

        private boolean takes(int b, int choice) {
            return (takers[choice] >> b & 1) != 0;
        }

        /** Weights of 8 BOXES stay below 4096, so that no part of a sum of prices runs into the next. */
        private int priceOf(int b, boolean lightest) {
            int weight = store.told(b, WEIGHT);
            int bit = 1 << b;
            return lightest ? weight << 12 | 1 << 8 | bit : 1 << 20 | weight << 8 | bit;
        }

        /** From the greatest held choice down: what grows is greater and was met, so a BOX is used once. */
        private void offer(int b, int price, int all) {
            for (int held = all - 1; held >= 0; held--) {
                if (prices[held] < NEVER && prices[held] + price < prices[all]) {
                    extend(held, b, prices[held] + price, all ^ held);
                }
            }
        }

        private void extend(int held, int b, int price, int rest) {
            if (takes(b, rest)) {
                prices[held | rest] = price;
                return;
            }
            for (int part = rest - 1 & rest; part > 0; part = part - 1 & rest) {
                if (takes(b, part) && takesNoMore(b, part, rest)) {
                    prices[held | part] = Math.min(prices[held | part], price);
                }
            }
        }

        /** A BOX that takes all it can leaves the others the least: no other parts need be tried. */
        private boolean takesNoMore(int b, int part, int rest) {
            for (int left = rest ^ part; left != 0; left &= left - 1) {
                if (takes(b, part | left & -left)) {
                    return false;
                }
            }
            return true;
        }

        /** In which BOX of the household's a THING is; seek() has been called for the same set. */
        int boxFor(int i, int boxes) {
            lineUp(boxes);
            Arrays.fill(hopeless, 0);
            int left = picked.choices() - 1;
            for (int place = 0; place < rowLength; place++) {
                int part = greatestPart(place, left);
                if ((picked.bits(part) >> i & 1) != 0) {
                    return row[place];
                }
                left ^= part;
            }
            return NONE;
        }

        private void lineUp(int boxes) {
            rowLength = 0;
            for (int b = 0; b < MAX_BOXES; b++) {
                if ((boxes >> b & 1) != 0) {
                    row[rowLength] = b;
                    rowLength++;
                }
            }
        }

        private int greatestPart(int place, int left) {
            for (int part = left; part > 0; part = part - 1 & left) {
                if (takes(row[place], part) && canTake(place + 1, left ^ part)) {
                    return part;
                }
            }
            return 0;
        }

        /** Whether the BOXES of the row from a place on can take all of a choice; at most 8 deep. */
        private boolean canTake(int place, int choice) {
            if (choice == 0) {
                return true;
            }
            if (place >= rowLength || (hopeless[choice] >> place & 1) != 0) {
                return false;
            }
            for (int part = choice; part >= 0; part = part == 0 ? NONE : part - 1 & choice) {
                boolean isTried = takes(row[place], part) && takesNoMore(row[place], part, choice);
                if (isTried && canTake(place + 1, choice ^ part)) {
                    return true;
                }
            }
            hopeless[choice] |= 1 << place;
            return false;
        }
    }

    /** All ways in which ITEMS can be within a BOX: each ITEM in turn, each BOX for it in turn. */
    private static final class Shutting {
        private final Store store;
        private final int[] items = new int[MAX_SHUT];
        private final int[] within = new int[MAX_ITEMS];
        private final int[] fills = new int[MAX_BOXES];
        private final int[] loads = new int[MAX_BOXES];
        private final int[] halved = new int[MAX_BOXES];
        private int many;
        private int hosts;
        private int ways;

        Shutting(Store store) {
            this.store = store;
        }

        int ways() {
            return ways;
        }

        /** Of the first way, if no more than that was sought. */
        int boxOf(int i) {
            return i >= 0 && i < MAX_ITEMS ? within[i] : NONE;
        }

        void seek(int b, int set, boolean onlyFirst) {
            Arrays.fill(within, NONE);
            Arrays.fill(fills, 0);
            Arrays.fill(loads, 0);
            Arrays.fill(halved, 0);
            hosts = set & store.boxBits() | 1 << b;
            ways = 0;
            many = 0;
            for (int i = 0; i < MAX_ITEMS; i++) {
                if ((set >> i & 1) != 0 && many < MAX_SHUT) {
                    items[many] = i;
                    many++;
                }
            }
            placeFrom(0, onlyFirst);
        }

        /** At most 6 deep: k counts the ITEMS that are placed. */
        private void placeFrom(int k, boolean onlyFirst) {
            if (k >= many || k >= MAX_SHUT) {
                ways++;
                return;
            }
            int i = items[k];
            for (int b = 0; b < MAX_BOXES; b++) {
                if ((hosts >> b & 1) != 0 && mayHost(i, b)) {
                    move(i, b, 1);
                    if (isSound(i, b)) {
                        placeFrom(k + 1, onlyFirst);
                    }
                    if (onlyFirst && ways > 0) {
                        return;
                    }
                    move(i, b, -1);
                }
            }
        }

        private boolean mayHost(int i, int b) {
            if (store.told(i, OUTLINE) > store.told(b, LID)) {
                return false;
            }
            int at = b;
            for (int steps = 0; steps < MAX_BOXES && at != NONE; steps++) {
                if (at == i) {
                    return false;
                }
                at = boxOf(at);
            }
            return true;
        }

        /** By 1 the ITEM comes into the BOX, by -1 all is again as it was. */
        private void move(int i, int b, int by) {
            if (b < 0 || b >= MAX_BOXES || i < 0 || i >= MAX_ITEMS) {
                return;
            }
            boolean isBox = i < MAX_BOXES;
            within[i] = by > 0 ? b : NONE;
            fills[b] += by * store.told(i, SIZE);
            if (isBox) {
                halved[b] += by;
                halved[i] += by;
            }
            int heft = store.told(i, WEIGHT) + (isBox ? loads[i] : 0);
            int at = b;
            for (int steps = 0; steps < MAX_BOXES && at >= 0 && at < MAX_BOXES; steps++) {
                loads[at] += by * heft;
                at = within[at];
            }
        }

        /** Nothing that is placed later makes anything lighter or roomier: what is wrong now stays so. */
        private boolean isSound(int i, int b) {
            int at = b;
            for (int steps = 0; steps < MAX_BOXES && at >= 0 && at < MAX_BOXES; steps++) {
                if (loads[at] > store.told(at, BEARS)) {
                    return false;
                }
                at = within[at];
            }
            return fitsNow(b) && (i >= MAX_BOXES || fitsNow(i));
        }

        private boolean fitsNow(int b) {
            return b >= 0 && b < MAX_BOXES && fills[b] <= store.roomOf(b, halved[b]);
        }
    }

    /** Sets of THINGS that can be in a chest that was weighed, and the looks that tell them apart. */
    private static final class Chest {
        private static final int MAX_TOLD_APART = 12;

        private final Picked picked;
        private final int[] kept = new int[MAX_TOLD_APART];
        private final int[] timesIn = new int[MAX_CHEST];
        private final int[] setsWith = new int[MAX_CHEST];
        /** For each choice of the kept sets, as bits, how many looks it needs. */
        private final int[] needed = new int[1 << MAX_TOLD_APART];
        private int found;
        private int inAll;
        private int inAny;

        Chest(Picked picked) {
            this.picked = picked;
        }

        void weigh(int b, int set, int n, int w) {
            begin(set);
            for (int choice = 0; choice < picked.choices(); choice++) {
                if (Integer.bitCount(choice) == n && picked.weight(choice) == w && picked.goInto(choice, b)) {
                    note(choice);
                }
            }
        }

        void sound(int b, int set, int w, int f) {
            begin(set);
            for (int choice = 0; choice < picked.choices(); choice++) {
                if (picked.weight(choice) == w && picked.size(choice) == f && picked.goInto(choice, b)) {
                    note(choice);
                }
            }
        }

        private void begin(int set) {
            picked.pick(set, MAX_CHEST);
            Arrays.fill(timesIn, 0);
            found = 0;
            inAll = picked.choices() - 1;
            inAny = 0;
        }

        private void note(int choice) {
            if (found < MAX_TOLD_APART) {
                kept[found] = choice;
            }
            found++;
            inAll &= choice;
            inAny |= choice;
            for (int k = 0; k < MAX_CHEST; k++) {
                timesIn[k] += choice >> k & 1;
            }
        }

        int found() {
            return found;
        }

        int surelyIn() {
            return found == 0 ? 0 : picked.bits(inAll);
        }

        int surelyOut() {
            return found == 0 ? 0 : picked.bits(picked.choices() - 1 & ~inAny);
        }

        int bestLook() {
            if (found <= 1) {
                return NONE;
            }
            int best = NONE;
            int bestLeft = found;
            for (int k = 0; k < picked.many() && k < MAX_CHEST; k++) {
                int left = Math.max(timesIn[k], found - timesIn[k]);
                if (left < bestLeft) {
                    bestLeft = left;
                    best = picked.memberAt(k);
                }
            }
            return best;
        }

        int looksNeeded() {
            if (found == 0) {
                return NONE;
            }
            if (found > MAX_TOLD_APART) {
                return TOO_MANY;
            }
            noteSetsWith();
            int all = (1 << found) - 1;
            for (int sets = 1; sets <= all; sets++) {
                needed[sets] = (sets & sets - 1) == 0 ? 0 : looksFor(sets);
            }
            return needed[all];
        }

        private void noteSetsWith() {
            for (int k = 0; k < MAX_CHEST; k++) {
                setsWith[k] = 0;
                for (int s = 0; s < found && s < MAX_TOLD_APART; s++) {
                    setsWith[k] |= (kept[s] >> k & 1) << s;
                }
            }
        }

        /** Parts of some sets are lesser as bits, so that what they need is known by then. */
        private int looksFor(int sets) {
            int atLeast = 32 - Integer.numberOfLeadingZeros(Integer.bitCount(sets) - 1);
            int least = MAX_TOLD_APART;
            for (int k = 0; k < MAX_CHEST && least > atLeast; k++) {
                int with = sets & setsWith[k];
                int without = sets & ~setsWith[k];
                if (with != 0 && without != 0) {
                    least = Math.min(least, 1 + Math.max(needed[with], needed[without]));
                }
            }
            return least;
        }
    }

    /** The longest nest: for a set of BOXES and the outermost of them, how many more can come around. */
    private static final class Nest {
        private final Store store;
        private final int[] more = new int[(1 << MAX_BOXES) * MAX_BOXES];
        /** For each BOX, as bits, those it goes into; and those that, with it inside, go into others. */
        private final int[] into = new int[MAX_BOXES];
        private final int[] onward = new int[MAX_BOXES];
        private final int[] row = new int[MAX_BOXES];
        private int many;

        Nest(Store store) {
            this.store = store;
        }

        int many() {
            return many;
        }

        int boxAt(int k) {
            return k >= 0 && k < many && k < MAX_BOXES ? row[k] : NONE;
        }

        void seek() {
            for (int b = 0; b < store.boxes(); b++) {
                notePairs(b);
            }
            for (int nested = store.boxBits(); nested > 0; nested--) {
                for (int last = 0; last < store.boxes(); last++) {
                    if ((nested >> last & 1) != 0) {
                        more[nested * MAX_BOXES + last] = mostAround(nested, last);
                    }
                }
            }
            lineUp();
        }

        private void notePairs(int inner) {
            into[inner] = 0;
            onward[inner] = 0;
            for (int b = 0; b < store.boxes(); b++) {
                if (store.takesAlone(inner, b) && b != inner) {
                    into[inner] |= 1 << b;
                }
                if (store.told(inner, SIZE) <= store.roomOf(b, 2)) {
                    onward[inner] |= 1 << b;
                }
            }
        }

        private int mostAround(int nested, int last) {
            int weight = store.weightOfBoxes(nested);
            int most = 0;
            for (int next = 0; next < store.boxes(); next++) {
                most = Math.max(most, manyWith(nested, last, next, weight));
            }
            return most;
        }

        /** How many come around, the next one being the first of them; 0 if it can't be. */
        private int manyWith(int nested, int last, int next, int weight) {
            int bit = 1 << next;
            boolean canBe = (nested & bit) == 0 && (into[last] & bit) != 0 && weight <= store.told(next, BEARS);
            if (!canBe) {
                return 0;
            }
            return (onward[last] & bit) == 0 ? 1 : 1 + more[(nested | bit) * MAX_BOXES + next];
        }

        private void lineUp() {
            many = 0;
            int length = 0;
            int innermost = NONE;
            for (int b = 0; b < store.boxes(); b++) {
                int with = 1 + more[(1 << b) * MAX_BOXES + b];
                if (with > length) {
                    length = with;
                    innermost = b;
                }
            }
            int nested = 0;
            int last = innermost;
            while (many < length && many < MAX_BOXES && last != NONE) {
                row[many] = last;
                many++;
                nested |= 1 << last;
                last = firstAround(nested, last, length - many);
            }
        }

        private int firstAround(int nested, int last, int wanted) {
            int weight = store.weightOfBoxes(nested);
            for (int next = 0; next < store.boxes() && wanted > 0; next++) {
                if (manyWith(nested, last, next, weight) == wanted) {
                    return next;
                }
            }
            return NONE;
        }
    }

    /** Voyages: what is lifted for an ITEM depends on which are out already, not on their order. */
    private static final class Voyage {
        private final Store store;
        private final Layout layout;
        private final int[] items = new int[MAX_VOYAGE];
        private final int[] row = new int[MAX_VOYAGE];
        /** For each set of those that are out already, as bits: liftings still to come, and the next one. */
        private final int[] fewest = new int[1 << MAX_VOYAGE];
        private final int[] next = new int[1 << MAX_VOYAGE];
        private int many;

        Voyage(Store store, Layout layout) {
            this.store = store;
            this.layout = layout;
        }

        boolean areItems(Row wanted, int atMost) {
            int seen = 0;
            for (int place = 0; place < wanted.many(); place++) {
                long i = wanted.get(place);
                if (!store.hasItem(i) || (seen >> (int) i & 1) != 0) {
                    return false;
                }
                seen |= 1 << (int) i;
            }
            return wanted.many() <= atMost;
        }

        int liftingsAsTold(Row wanted) {
            int liftings = 0;
            int gone = 0;
            for (int place = 0; place < wanted.many(); place++) {
                int i = (int) wanted.get(place);
                liftings += layout.liftings(i, gone);
                gone |= 1 << i;
            }
            return liftings;
        }

        int fewest() {
            return fewest[0];
        }

        int itemAt(int k) {
            return k >= 0 && k < many && k < MAX_VOYAGE ? row[k] : NONE;
        }

        void seek(Row wanted) {
            sortIn(wanted);
            int all = (1 << many) - 1;
            fewest[all] = 0;
            for (int out = all - 1; out >= 0; out--) {
                chooseNext(out);
            }
            int out = 0;
            for (int place = 0; place < many; place++) {
                int k = next[out];
                row[place] = items[k];
                out |= 1 << k;
            }
        }

        /** In order of their numbers, so that of like orders the first is met first. */
        private void sortIn(Row wanted) {
            int set = 0;
            for (int place = 0; place < wanted.many(); place++) {
                set |= 1 << (int) wanted.get(place);
            }
            many = 0;
            for (int i = 0; i < MAX_ITEMS && many < MAX_VOYAGE; i++) {
                if ((set >> i & 1) != 0) {
                    items[many] = i;
                    many++;
                }
            }
        }

        private void chooseNext(int out) {
            int gone = 0;
            for (int k = 0; k < many; k++) {
                gone |= (out >> k & 1) << items[k];
            }
            int least = NONE;
            for (int k = 0; k < many; k++) {
                if ((out >> k & 1) == 0) {
                    int liftings = layout.liftings(items[k], gone) + fewest[out | 1 << k];
                    if (least == NONE || liftings < least) {
                        least = liftings;
                        next[out] = k;
                    }
                }
            }
            fewest[out] = least;
        }
    }
}
