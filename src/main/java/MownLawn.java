/** Wrongs cut into a lawn in letters, left till they grow out; README.md tells how it is used. */
public final class MownLawn {
    public static final int NONE = -1;

    private static final int NOT = -2;
    private static final int PAVED = -2;
    private static final int NO_CELL = -100;
    private static final int NO_SHAPE = -1000;
    private static final int NO_PLACE = -2000;

    private static final int MOST_BYTES = 2000;
    private static final int MOST_TOKENS = 400;
    private static final int MOST_IFS = 4;
    private static final int MOST_OPEN = 6;
    private static final int MOST_LETTERS = 8;
    private static final int MOST_DIGITS = 4;
    private static final int MOST_ROWS = 6;
    private static final int MOST_SIGNS = 4;
    private static final int MOST_WINDOWS = 4;
    private static final int MOST_TALKS = 6;
    private static final int MOST_TOLD = 20;
    private static final int MOST_UNDONE = 30;
    private static final int MOST_SLOTS = 3;
    private static final int MOST_WEEKS = 60;
    private static final int MOST_SEEDS = 20;
    private static final int MOST_AGO = 30;
    private static final int LAST_GONE = 99;
    private static final int LAST_QUIET = 200;
    private static final int TALLEST = 99;
    private static final int MOST_FOOD = 99;
    private static final int LAST_X = 7;

    // A border of cells that are never grass lies around the lawn, so that every cell has four neighbours.
    private static final int STRIDE = 10;
    private static final int CELLS = 80;

    private static final int SYNTAX = 1;
    private static final int ROOM = 2;
    private static final int TWICE = 3;
    private static final int NO_NAME = 4;
    private static final int WRONG = 5;
    private static final int SHAPE = 6;

    // Kinds of tokens; a SIGN's kind is its byte, a word's is FIRST_WORD and its number in WORDS.
    private static final int END = 0;
    private static final int BAD = 1;
    private static final int NAME = 2;
    private static final int INT = 3;
    private static final int FIRST_WORD = 100;
    private static final int ROW = 100;
    private static final int SIGN = 101;
    private static final int WINDOW = 102;
    private static final int TALK = 103;
    private static final int GROWS = 104;
    private static final int FEEDS = 105;
    private static final int FINES = 106;
    private static final int HEIGHT = 107;
    private static final int RAIN = 108;
    private static final int SEED = 109;
    private static final int IF = 110;
    private static final int THEN = 111;
    private static final int ELSE = 112;
    private static final int FIRST_VAR = 113;
    private static final int LAST_VAR = 121;
    private static final int WORD_COUNT = 22;
    private static final int WORD_WIDTH = 6;
    private static final String WORDS =
        "row   sign  windowtalk  grows feeds fines heightrain  seed  if    then  else  tall  sun   week  wet   food  acrossdown  besidesize  ";
    private static final String SIGNS = ";=+-*/<()";

    // A VAR's number is its place in the document's list.
    private static final int VARS = 9;
    private static final int TALL = 0;
    private static final int SUN = 1;
    private static final int WEEK = 2;
    private static final int WET = 3;
    private static final int FOOD = 4;
    private static final int ACROSS = 5;
    private static final int DOWN = 6;
    private static final int BESIDE = 7;
    private static final int SIZE = 8;

    private final Tokens tokens;
    private final Reader reader;
    private final Gardener gardener;
    private final Past past;
    private final Clues clues;
    private final Lawn now;
    private final Lawn trial;
    private final Lawn waiting;
    private Plan plan;
    private Plan spare;
    private int faultPlace;

    public MownLawn() {
        tokens = new Tokens();
        reader = new Reader(tokens);
        plan = new Plan();
        spare = new Plan();
        gardener = new Gardener(plan);
        past = new Past();
        clues = new Clues(gardener);
        now = new Lawn();
        trial = new Lawn();
        waiting = new Lawn();
        faultPlace = NONE;
    }

    public int feed(int a, int b, int c, int d, int e) {
        if (tokens.length + 20 > MOST_BYTES) {
            return NONE;
        }
        tokens.addFour(a);
        tokens.addFour(b);
        tokens.addFour(c);
        tokens.addFour(d);
        tokens.addFour(e);
        return tokens.length;
    }

    public int back(int n) {
        if (n < 0 || n > tokens.length) {
            return NONE;
        }
        tokens.length -= n;
        return tokens.length;
    }

    public int read() {
        tokens.findAll();
        reader.begin(spare);
        for (int t = 0; t <= MOST_TOKENS && reader.goesOn(); t++) {
            reader.takeTell();
        }
        reader.end();
        faultPlace = reader.faultPlace;
        tokens.length = 0;
        if (reader.fault == 0) {
            beginAnew();
        }
        return reader.fault;
    }

    private void beginAnew() {
        Plan former = plan;
        plan = spare;
        spare = former;
        gardener.plan = plan;
        now.begin(plan);
        past.clear();
        clues.clear();
    }

    public int place() {
        return faultPlace;
    }

    public int cell(int x, int y, int what) {
        if (!plan.hasCell(x, y)) {
            return NO_CELL;
        }
        int i = indexOf(x, y);
        switch (what) {
            case 0:
                return now.high[i];
            case 1:
                return plan.sun[i];
            case 2:
                return now.food[i];
            case 3:
                return plan.isGrass(x, y) ? gardener.growth(now, x, y, 0) : 0;
            default:
                return NO_CELL;
        }
    }

    public int sign(int sign, int what) {
        if (!plan.hasSign(sign)) {
            return NONE;
        }
        switch (what) {
            case 0:
                return Integer.bitCount(plan.shape[sign]);
            case 1:
                return knowers(sign);
            case 2:
                return now.timesCut[sign];
            default:
                return NONE;
        }
    }

    private int knowers(int sign) {
        int bits = 0;
        for (int w = 0; w < plan.windows; w++) {
            bits |= (now.known[w] >> sign & 1) << w;
        }
        return bits;
    }

    public int window(int window, int what) {
        if (!plan.hasWindow(window)) {
            return NONE;
        }
        switch (what) {
            case 0:
                return plan.from[window];
            case 1:
                return plan.to[window];
            case 2:
                return plan.sharp[window];
            case 3:
                return now.known[window];
            case 4:
                return plan.talksWith[window];
            default:
                return NONE;
        }
    }

    public int contrast(int sign, int x, int y) {
        return plan.hasPlace(sign, x, y) ? gardener.standsOut(now, sign, x, y) : NO_PLACE;
    }

    public int reads(int window, int sign, int i) {
        if (!plan.hasWindow(window) || !plan.hasSign(sign) || i < NONE) {
            return NONE;
        }
        int found = 0;
        for (int y = 0; y + 2 < plan.rows; y++) {
            for (int x = 0; x + 2 < plan.width; x++) {
                if (gardener.isRead(now, window, sign, x, y)) {
                    if (found == i) {
                        return 10 * y + x;
                    }
                    found++;
                }
            }
        }
        return i == NONE ? found : NONE;
    }

    public int cut(int sign, int x, int y) {
        if (!plan.hasPlace(sign, x, y)) {
            return NONE;
        }
        past.keep(now);
        int fine = gardener.fineFor(now, sign, x, y);
        gardener.cutOut(now, sign, x, y);
        now.timesCut[sign]++;
        now.paid += fine;
        return fine;
    }

    public int graze(int x, int y) {
        if (!plan.hasCell(x, y)) {
            return NONE;
        }
        if (!plan.isGrass(x, y)) {
            return PAVED;
        }
        past.keep(now);
        int i = indexOf(x, y);
        int was = now.high[i];
        now.high[i] = 0;
        return was;
    }

    public int nourish(int x, int y) {
        if (!plan.hasCell(x, y)) {
            return NONE;
        }
        if (!plan.isGrass(x, y)) {
            return PAVED;
        }
        past.keep(now);
        gardener.giveFood(now, x, y);
        return now.food[indexOf(x, y)];
    }

    public int mow(int height) {
        if (!isHeight(height)) {
            return NONE;
        }
        past.keep(now);
        return gardener.mowTo(now, height);
    }

    public int weeks(int n) {
        if (!isWait(n)) {
            return NONE;
        }
        if (n > 0) {
            past.keep(now);
        }
        for (int w = 0; w < n; w++) {
            gardener.live(now);
        }
        return now.week;
    }

    public boolean undo() {
        return past.takeBack(now);
    }

    public int best(int sign, int what) {
        if (!plan.hasPlace(sign, 0, 0) || what < 0 || what > 2) {
            return NO_PLACE;
        }
        int most = NO_PLACE;
        int bestX = 0;
        int bestY = 0;
        for (int y = 0; y + 2 < plan.rows; y++) {
            for (int x = 0; x + 2 < plan.width; x++) {
                int by = gardener.standsOut(now, sign, x, y);
                if (by > most) {
                    most = by;
                    bestX = x;
                    bestY = y;
                }
            }
        }
        if (what == 0) {
            return most;
        }
        return what == 1 ? bestX : bestY;
    }

    public int gone(int sign, int x, int y) {
        if (!plan.hasPlace(sign, x, y)) {
            return NONE;
        }
        trial.become(now);
        int behind = weeksTillGone(sign, x, y);
        return behind > LAST_GONE ? NOT : behind;
    }

    /** From what trial is now; more than LAST_GONE if the sign is never gone. */
    private int weeksTillGone(int sign, int x, int y) {
        for (int w = 0; w < LAST_GONE; w++) {
            if (!gardener.someoneReads(trial, sign, x, y)) {
                return w;
            }
            gardener.growWeek(trial, plan.seed);
        }
        return gardener.someoneReads(trial, sign, x, y) ? LAST_GONE + 1 : LAST_GONE;
    }

    public int when(int sign, int x, int y, int d, int e) {
        if (!plan.hasPlace(sign, x, y) || d < 0 || d >= e || e > MOST_WEEKS) {
            return NONE;
        }
        waiting.become(now);
        for (int w = 0; w <= d; w++) {
            trial.become(waiting);
            gardener.cutOut(trial, sign, x, y);
            if (readThenGone(sign, x, y, d - w, e - d)) {
                return w;
            }
            gardener.growWeek(waiting, plan.seed);
        }
        return NOT;
    }

    private boolean readThenGone(int sign, int x, int y, int tillRead, int tillGone) {
        gardener.growWeeks(trial, tillRead, plan.seed);
        if (!gardener.someoneReads(trial, sign, x, y)) {
            return false;
        }
        gardener.growWeeks(trial, tillGone, plan.seed);
        return !gardener.someoneReads(trial, sign, x, y);
    }

    public int cuts(int window, int sign, int x, int y) {
        if (!plan.hasWindow(window) || !plan.hasPlace(sign, x, y)) {
            return NONE;
        }
        if (!plan.sees(window, x) || !plan.isReadable(sign)) {
            return NOT;
        }
        int allowed = gardener.leastLeft(now, sign, x, y) - plan.sharp[window];
        return allowed < 0 ? NOT : gardener.tooTall(now, sign, x, y, allowed);
    }

    public int care(int sign, int x, int y) {
        if (!plan.hasPlace(sign, x, y)) {
            return NONE;
        }
        // Food does nothing but by GROWS.
        if (!plan.grows.uses(FOOD)) {
            return NOT;
        }
        trial.become(now);
        int latest = weeksTillGone(sign, x, y);
        int where = NOT;
        for (int cy = 0; cy < plan.rows; cy++) {
            for (int cx = 0; cx < plan.width; cx++) {
                // Nothing is later than never.
                if (latest <= LAST_GONE && plan.isGrass(cx, cy)) {
                    trial.become(now);
                    gardener.giveFood(trial, cx, cy);
                    int behind = weeksTillGone(sign, x, y);
                    if (behind > latest) {
                        latest = behind;
                        where = 10 * cy + cx;
                    }
                }
            }
        }
        return where;
    }

    public int level() {
        trial.become(now);
        for (int height = TALLEST; height >= 0; height--) {
            gardener.mowTo(trial, height);
            if (!gardener.anythingIsRead(trial)) {
                return height;
            }
        }
        return NOT;
    }

    public int quiet() {
        trial.become(now);
        for (int w = 0; w <= LAST_QUIET; w++) {
            if (!gardener.anythingIsRead(trial)) {
                return w;
            }
            gardener.growWeek(trial, plan.seed);
        }
        return NOT;
    }

    public int knows(int window, int sign) {
        if (!plan.hasWindow(window) || !plan.hasSign(sign)) {
            return NONE;
        }
        trial.become(now);
        for (int w = 0; w <= LAST_QUIET; w++) {
            if ((trial.known[window] >> sign & 1) == 1) {
                return w;
            }
            gardener.live(trial);
        }
        return NOT;
    }

    public int then(int x, int y, int n) {
        if (!plan.hasCell(x, y) || !isWait(n)) {
            return NONE;
        }
        trial.become(now);
        gardener.growWeeks(trial, n, plan.seed);
        return trial.high[indexOf(x, y)];
    }

    public int all(int n, int what, int h) {
        if (!isWait(n) || what < 0 || what > 3 || what == 3 && !isHeight(h)) {
            return NONE;
        }
        trial.become(now);
        gardener.growWeeks(trial, n, plan.seed);
        switch (what) {
            case 2:
                return allHeights();
            case 3:
                return soHigh(h);
            default:
                return tallest(what == 1);
        }
    }

    private int tallest(boolean where) {
        int most = NOT;
        int at = NOT;
        for (int y = 0; y < plan.rows; y++) {
            for (int x = 0; x < plan.width; x++) {
                int high = trial.high[indexOf(x, y)];
                if (high > most) {
                    most = high;
                    at = 10 * y + x;
                }
            }
        }
        return where ? at : most;
    }

    private int allHeights() {
        int sum = 0;
        for (int i = 0; i < CELLS; i++) {
            sum += trial.high[i];
        }
        return sum;
    }

    private int soHigh(int h) {
        int found = 0;
        for (int i = 0; i < CELLS; i++) {
            if (plan.sun[i] >= 0 && trial.high[i] >= h) {
                found++;
            }
        }
        return found;
    }

    public int year(int window, int sign, int n, int s) {
        if (!plan.hasWindow(window) || !plan.hasSign(sign) || !isWait(n) || s < 1 || s > MOST_SEEDS) {
            return NONE;
        }
        int found = 0;
        for (int i = 0; i < s; i++) {
            trial.become(now);
            gardener.growWeeks(trial, n, plan.seed + i);
            if (gardener.readsAnywhere(trial, window, sign)) {
                found++;
            }
        }
        return found;
    }

    public int tell(int x, int y, int high) {
        return plan.hasCell(x, y) && isHeight(high) ? clues.add(x, y, high) : NONE;
    }

    public int forget() {
        int had = clues.told;
        clues.told = 0;
        return had;
    }

    public int blades(int k) {
        if (!clues.has(k)) {
            return NONE;
        }
        clues.growAll(now.week);
        return clues.sift(k);
    }

    public int sure(int k, int what) {
        if (!clues.has(k) || what < 0 || what > 3) {
            return NONE;
        }
        clues.growAll(now.week);
        return clues.sift(k) == 0 ? NOT : clues.common(what);
    }

    public int ask(int k) {
        if (!clues.has(k)) {
            return NONE;
        }
        clues.growAll(now.week);
        return clues.sift(k) == 0 ? NOT : clues.tellingCell();
    }

    public boolean hold(int slot) {
        return past.put(slot, now);
    }

    public boolean restore(int slot) {
        return past.goOnFrom(slot, now);
    }

    public int count(int what) {
        switch (what) {
            case 0:
                return plan.width;
            case 1:
                return plan.rows;
            case 2:
                return plan.signs;
            case 3:
                return plan.windows;
            case 4:
                return now.week;
            case 5:
                return now.paid;
            case 6:
                return now.allCuts();
            case 7:
                return gardener.rainIn(now.week, plan.seed);
            case 8:
                return tokens.length;
            case 9:
                return past.things;
            case 10:
                return clues.told;
            case 11:
                return past.slotsHeld();
            case 12:
                return plan.grassCells();
            case 13:
                return plan.talks;
            default:
                return NONE;
        }
    }

    private static boolean isHeight(int h) {
        return h >= 0 && h <= TALLEST;
    }

    private static boolean isWait(int n) {
        return n >= 0 && n <= MOST_WEEKS;
    }

    /** For x -1 .. 8 and y -1 .. 6 alone: who calls it has looked at them. */
    private static int indexOf(int x, int y) {
        return (y + 1) * STRIDE + x + 1;
    }

    private static int held(int value, int least, int most) {
        return Math.max(least, Math.min(most, value));
    }

    /** The tape, and its tokens one by one. */
    private static final class Tokens {
        final int[] bytes = new int[MOST_BYTES];
        int length;
        // The tokens, the 401st at most, up to the text's end or the first that is none.
        final int[] kinds = new int[MOST_TOKENS + 2];
        final int[] places = new int[MOST_TOKENS + 2];
        final int[] numbers = new int[MOST_TOKENS + 2];
        final long[] names = new long[MOST_TOKENS + 2];
        // The token that is being found.
        int next;
        int kind;
        int place;
        int number;
        long name;

        void addFour(int four) {
            for (int shift = 24; shift >= 0; shift -= 8) {
                if (length < MOST_BYTES) {
                    bytes[length] = four >>> shift & 255;
                    length++;
                }
            }
        }

        void findAll() {
            next = 0;
            kind = NAME;
            for (int t = 0; t < kinds.length; t++) {
                if (kind != END && kind != BAD) {
                    findNext();
                }
                kinds[t] = kind;
                places[t] = place;
                numbers[t] = number;
                names[t] = name;
            }
        }

        private void findNext() {
            while (next < length && isBlank(bytes[next])) {
                next++;
            }
            place = next;
            if (next >= length) {
                kind = END;
                return;
            }
            int first = bytes[next];
            if (isLetter(first)) {
                takeLetters();
            } else if (isDigit(first)) {
                takeDigits();
            } else {
                kind = SIGNS.indexOf((char) first) >= 0 ? first : BAD;
                next++;
            }
        }

        private void takeLetters() {
            int size = 0;
            name = 0;
            while (next < length && isLetter(bytes[next])) {
                if (size < MOST_LETTERS) {
                    name |= (long) (bytes[next] - 'a' + 1) << 5 * size;
                }
                size++;
                next++;
            }
            kind = size > MOST_LETTERS ? BAD : kindOfWord(size);
        }

        private int kindOfWord(int size) {
            for (int w = 0; w < WORD_COUNT; w++) {
                if (isWord(w, size)) {
                    return FIRST_WORD + w;
                }
            }
            return NAME;
        }

        private boolean isWord(int w, int size) {
            if (size > WORD_WIDTH) {
                return false;
            }
            for (int i = 0; i < WORD_WIDTH; i++) {
                int due = i < size ? Tokens.letter(name, i) + 'a' - 1 : ' ';
                if (WORDS.charAt(w * WORD_WIDTH + i) != due) {
                    return false;
                }
            }
            return true;
        }

        private void takeDigits() {
            int size = 0;
            number = 0;
            while (next < length && isDigit(bytes[next])) {
                if (size < MOST_DIGITS) {
                    number = 10 * number + bytes[next] - '0';
                }
                size++;
                next++;
            }
            kind = size > MOST_DIGITS ? BAD : INT;
        }

        private static boolean isBlank(int b) {
            return b == 9 || b == 10 || b == 13 || b == 32;
        }

        private static boolean isLetter(int b) {
            return b >= 'a' && b <= 'z';
        }

        private static boolean isDigit(int b) {
            return b >= '0' && b <= '9';
        }

        /** A NAME's letters stand in its number, five bits each, a as 1; 0 behind the last. */
        static int letter(long name, int i) {
            return (int) (name >> 5 * i & 31);
        }

        static int letters(long name) {
            int size = 0;
            while (size < MOST_LETTERS && letter(name, size) != 0) {
                size++;
            }
            return size;
        }
    }

    /** What a text tells. */
    private static final class Plan {
        final int[] sun = new int[CELLS];
        final long[] signNames = new long[MOST_SIGNS];
        final int[] shape = new int[MOST_SIGNS];
        final long[] windowNames = new long[MOST_WINDOWS];
        final int[] from = new int[MOST_WINDOWS];
        final int[] to = new int[MOST_WINDOWS];
        final int[] sharp = new int[MOST_WINDOWS];
        final int[] talksWith = new int[MOST_WINDOWS];
        final Law grows = new Law();
        final Law feeds = new Law();
        final Law fines = new Law();
        int width;
        int rows;
        int signs;
        int windows;
        int talks;
        int height;
        int rainOften;
        int rainMuch;
        int seed;

        Plan() {
            clear();
        }

        void clear() {
            for (int i = 0; i < CELLS; i++) {
                sun[i] = PAVED;
            }
            for (int w = 0; w < MOST_WINDOWS; w++) {
                talksWith[w] = 0;
            }
            width = 0;
            rows = 0;
            signs = 0;
            windows = 0;
            talks = 0;
            height = 20;
            rainOften = 0;
            rainMuch = 0;
            seed = 0;
            grows.beOnly(Law.codeOfVar(SUN));
            feeds.beOnly(2);
            fines.beOnly(Law.codeOfVar(SIZE));
        }

        boolean hasCell(int x, int y) {
            return x >= 0 && x < width && y >= 0 && y < rows;
        }

        boolean isGrass(int x, int y) {
            return hasCell(x, y) && sun[indexOf(x, y)] >= 0;
        }

        boolean hasSign(int sign) {
            return sign >= 0 && sign < signs;
        }

        boolean hasWindow(int window) {
            return window >= 0 && window < windows;
        }

        boolean hasPlace(int sign, int x, int y) {
            return hasSign(sign) && x >= 0 && x < width - 2 && y >= 0 && y < rows - 2;
        }

        /** i: 0 .. 8, by rows. */
        boolean isCutAt(int sign, int i) {
            return (shape[sign] >> i & 1) == 1;
        }

        boolean isReadable(int sign) {
            return shape[sign] != 0 && shape[sign] != 511;
        }

        boolean sees(int window, int x) {
            return x >= from[window] && x + 2 <= to[window];
        }

        int grassCells() {
            int found = 0;
            for (int i = 0; i < CELLS; i++) {
                if (sun[i] >= 0) {
                    found++;
                }
            }
            return found;
        }

        boolean isNamed(long name) {
            for (int s = 0; s < signs; s++) {
                if (signNames[s] == name) {
                    return true;
                }
            }
            return windowNamed(name) != NONE;
        }

        int windowNamed(long name) {
            for (int w = 0; w < windows; w++) {
                if (windowNames[w] == name) {
                    return w;
                }
            }
            return NONE;
        }

        boolean talk(int one, int other) {
            return (talksWith[one] >> other & 1) == 1;
        }

        void addTalk(int one, int other) {
            talksWith[one] |= 1 << other;
            talksWith[other] |= 1 << one;
        }
    }

    /** The grammar's TELLs; the first of the faults 1 and 2 ends the reading, of the others the first is kept. */
    private static final class Reader {
        final Tokens tokens;
        final LawMaker maker = new LawMaker();
        Plan plan;
        int at;
        int fault;
        int faultPlace;
        int lateFault;
        int latePlace;
        // Of the token taken last.
        int place;
        int number;
        long name;

        Reader(Tokens tokens) {
            this.tokens = tokens;
        }

        void begin(Plan spare) {
            plan = spare;
            plan.clear();
            fault = 0;
            faultPlace = NONE;
            lateFault = 0;
            latePlace = NONE;
            at = 0;
        }

        boolean goesOn() {
            return fault == 0 && tokens.kinds[at] != END;
        }

        void end() {
            if (fault == 0) {
                fault = lateFault;
                faultPlace = latePlace;
            }
        }

        void takeTell() {
            switch (tokens.kinds[at]) {
                case ROW:
                    takeRow();
                    break;
                case SIGN:
                    takeSign();
                    break;
                case WINDOW:
                    takeWindow();
                    break;
                case TALK:
                    takeTalk();
                    break;
                case GROWS:
                    takeLaw(plan.grows);
                    break;
                case FEEDS:
                    takeLaw(plan.feeds);
                    break;
                case FINES:
                    takeLaw(plan.fines);
                    break;
                case HEIGHT:
                    takeHeight();
                    break;
                case RAIN:
                    takeRain();
                    break;
                case SEED:
                    takeSeed();
                    break;
                default:
                    refuse(SYNTAX);
            }
        }

        private void refuse(int number) {
            fault = number;
            faultPlace = tokens.places[at];
        }

        private void blame(int number) {
            if (lateFault == 0) {
                lateFault = number;
                latePlace = place;
            }
        }

        private boolean take(int kind) {
            if (tokens.kinds[at] != kind) {
                refuse(SYNTAX);
                return false;
            }
            return pass();
        }

        private boolean pass() {
            if (at >= MOST_TOKENS) {
                refuse(ROOM);
                return false;
            }
            place = tokens.places[at];
            number = tokens.numbers[at];
            name = tokens.names[at];
            at++;
            return true;
        }

        private boolean open(int had, int most) {
            if (had >= most) {
                refuse(ROOM);
                return false;
            }
            return pass();
        }

        private boolean takeInt(int least, int most) {
            if (!take(INT)) {
                return false;
            }
            if (number < least || number > most) {
                blame(WRONG);
            }
            return true;
        }

        private void takeRow() {
            if (!open(plan.rows, MOST_ROWS) || !take(NAME)) {
                return;
            }
            int size = Tokens.letters(name);
            if (plan.rows == 0) {
                plan.width = size;
            } else if (size != plan.width) {
                blame(SHAPE);
            }
            for (int x = 0; x < size; x++) {
                int letter = Tokens.letter(name, x) + 'a' - 1;
                plan.sun[indexOf(x, plan.rows)] = letter == 'p' ? PAVED : letter - 'a';
            }
            plan.rows++;
            take(';');
        }

        private void takeSign() {
            int sign = plan.signs;
            if (!open(sign, MOST_SIGNS) || !take(NAME)) {
                return;
            }
            if (plan.isNamed(name)) {
                blame(TWICE);
            }
            plan.signNames[sign] = name;
            plan.shape[sign] = 0;
            plan.signs++;
            for (int row = 0; row < 3; row++) {
                if (!take(NAME)) {
                    return;
                }
                plan.shape[sign] |= shapeOfRow() << 3 * row;
            }
            take(';');
        }

        private int shapeOfRow() {
            int bits = 0;
            boolean fits = Tokens.letters(name) == 3;
            for (int i = 0; i < 3; i++) {
                int letter = Tokens.letter(name, i) + 'a' - 1;
                fits = fits && (letter == 'x' || letter == 'o');
                if (letter == 'x') {
                    bits |= 1 << i;
                }
            }
            if (!fits) {
                blame(SHAPE);
            }
            return bits;
        }

        private void takeWindow() {
            int window = plan.windows;
            if (!open(window, MOST_WINDOWS) || !take(NAME)) {
                return;
            }
            if (plan.isNamed(name)) {
                blame(TWICE);
            }
            plan.windowNames[window] = name;
            plan.windows++;
            if (!takeInt(0, LAST_X)) {
                return;
            }
            plan.from[window] = number;
            if (!takeInt(plan.from[window], LAST_X)) {
                return;
            }
            plan.to[window] = number;
            if (takeInt(0, 99)) {
                plan.sharp[window] = number;
                take(';');
            }
        }

        private void takeTalk() {
            if (!open(plan.talks, MOST_TALKS) || !take(NAME)) {
                return;
            }
            int one = plan.windowNamed(name);
            if (one == NONE) {
                blame(NO_NAME);
            }
            if (!take(NAME)) {
                return;
            }
            int other = plan.windowNamed(name);
            if (other == NONE) {
                blame(NO_NAME);
            } else if (one != NONE) {
                if (one == other || plan.talk(one, other)) {
                    blame(TWICE);
                }
                plan.addTalk(one, other);
            }
            plan.talks++;
            take(';');
        }

        private void takeHeight() {
            if (pass() && takeInt(0, TALLEST)) {
                plan.height = number;
                take(';');
            }
        }

        private void takeRain() {
            if (!pass() || !takeInt(0, 100)) {
                return;
            }
            plan.rainOften = number;
            if (takeInt(0, 9)) {
                plan.rainMuch = number;
                take(';');
            }
        }

        private void takeSeed() {
            if (pass() && takeInt(0, 9999)) {
                plan.seed = number;
                take(';');
            }
        }

        private void takeLaw(Law law) {
            if (!pass() || !take('=')) {
                return;
            }
            maker.begin(law);
            for (int t = 0; t <= MOST_TOKENS && fault == 0 && !maker.ended; t++) {
                int kind = tokens.kinds[at];
                int said = maker.wantsUnit ? maker.hearUnit(kind, tokens.numbers[at]) : maker.hearBehindUnit(kind);
                if (said == 0) {
                    pass();
                } else {
                    refuse(said);
                }
            }
        }
    }

    /** Makes a LAW's code of its tokens behind '='; answers each with 0 or its fault. */
    private static final class LawMaker {
        private static final int AT_START = 0;
        private static final int LEFT_OF_LESS = 1;
        private static final int RIGHT_OF_LESS = 2;
        private static final int AT_THEN = 3;
        private static final int AT_LAST = 4;

        // Operators and brackets whose right side is not yet there: three at most for each open bracket.
        final int[] waiting = new int[24];
        int waits;
        Law law;
        int phase;
        int open;
        int ifs;
        int hole;
        boolean wantsUnit;
        boolean ended;

        void begin(Law empty) {
            law = empty;
            law.clear();
            waits = 0;
            phase = AT_START;
            open = 0;
            ifs = 0;
            hole = 0;
            wantsUnit = true;
            ended = false;
        }

        int hearUnit(int kind, int number) {
            if (kind == IF && phase == AT_START) {
                return hearIf();
            }
            if (kind == '(') {
                return hearBracket();
            }
            if (kind == INT) {
                law.put(number);
            } else if (kind >= FIRST_VAR && kind <= LAST_VAR) {
                law.put(Law.codeOfVar(kind - FIRST_VAR));
            } else {
                return SYNTAX;
            }
            leaveStart();
            wantsUnit = false;
            return 0;
        }

        private int hearIf() {
            if (ifs == MOST_IFS) {
                return ROOM;
            }
            ifs++;
            phase = LEFT_OF_LESS;
            return 0;
        }

        private int hearBracket() {
            if (open == MOST_OPEN) {
                return ROOM;
            }
            open++;
            leaveStart();
            pushWaiting('(');
            return 0;
        }

        private void leaveStart() {
            if (phase == AT_START) {
                phase = AT_LAST;
            }
        }

        int hearBehindUnit(int kind) {
            if (bindingOf(kind) > 0) {
                settle(bindingOf(kind));
                pushWaiting(kind);
                wantsUnit = true;
                return 0;
            }
            if (open == 0) {
                return hearEndOfE(kind);
            }
            if (kind != ')') {
                return SYNTAX;
            }
            settle(1);
            waits = Math.max(0, waits - 1);
            open--;
            return 0;
        }

        private int hearEndOfE(int kind) {
            if (kind == '<' && phase == LEFT_OF_LESS) {
                settle(1);
                phase = RIGHT_OF_LESS;
            } else if (kind == THEN && phase == RIGHT_OF_LESS) {
                settle(1);
                law.put(Law.UNLESS);
                hole = law.length;
                law.put(0);
                phase = AT_THEN;
            } else if (kind == ELSE && phase == AT_THEN) {
                settle(1);
                law.put(Law.RESULT);
                law.fill(hole, law.length);
                phase = AT_START;
            } else if (kind == ';' && phase == AT_LAST) {
                settle(1);
                law.put(Law.RESULT);
                ended = true;
            } else {
                return SYNTAX;
            }
            wantsUnit = true;
            return 0;
        }

        private void pushWaiting(int kind) {
            if (waits < waiting.length) {
                waiting[waits] = kind;
                waits++;
            }
        }

        /** What waits since the innermost bracket, and binds as much or more, has its right side now. */
        private void settle(int binding) {
            while (waits > 0 && bindingOf(waiting[waits - 1]) >= binding) {
                waits--;
                law.put(-waiting[waits]);
            }
        }

        private static int bindingOf(int kind) {
            if (kind == '*' || kind == '/') {
                return 2;
            }
            return kind == '+' || kind == '-' ? 1 : 0;
        }
    }

    /** A LAW as code for a stack: INTS as they are, all else below 0 (an operator is its sign's byte below 0). */
    private static final class Law {
        static final int RESULT = -100;
        static final int UNLESS = -101;

        final int[] code = new int[MOST_TOKENS + 1];
        // Two for each open bracket, three within the innermost, one left of '<': 16 at most.
        final int[] stack = new int[20];
        int length;

        static int codeOfVar(int number) {
            return -1 - number;
        }

        void clear() {
            length = 0;
        }

        void beOnly(int unit) {
            clear();
            put(unit);
            put(RESULT);
        }

        void put(int word) {
            if (length < code.length) {
                code[length] = word;
                length++;
            }
        }

        void fill(int hole, int word) {
            if (hole >= 0 && hole < length) {
                code[hole] = word;
            }
        }

        boolean uses(int number) {
            for (int at = 0; at < length; at++) {
                if (code[at] == codeOfVar(number)) {
                    return true;
                }
            }
            return false;
        }

        int worth(int[] vars) {
            int top = 0;
            for (int at = 0; at < length; at++) {
                int word = code[at];
                if (word >= -VARS) {
                    if (top >= stack.length) {
                        return 0;
                    }
                    stack[top] = word >= 0 ? word : vars[-1 - word];
                    top++;
                } else if (word == RESULT) {
                    return top > 0 ? stack[top - 1] : 0;
                } else {
                    if (top < 2) {
                        return 0;
                    }
                    int left = stack[top - 2];
                    int right = stack[top - 1];
                    if (word == UNLESS) {
                        top -= 2;
                        at++;
                        if (left >= right && at < length && code[at] > at) {
                            at = code[at] - 1;
                        }
                    } else if (word == -'/' && right == 0) {
                        return 0;
                    } else {
                        top--;
                        stack[top - 1] = joined(word, left, right);
                    }
                }
            }
            return 0;
        }

        private static int joined(int word, int left, int right) {
            switch (-word) {
                case '+':
                    return left + right;
                case '-':
                    return left - right;
                case '*':
                    return left * right;
                default:
                    return right == 0 ? 0 : left / right;
            }
        }
    }

    /** What goes on, on a lawn. */
    private static final class Lawn {
        final int[] high = new int[CELLS];
        final int[] food = new int[CELLS];
        final int[] known = new int[MOST_WINDOWS];
        final int[] timesCut = new int[MOST_SIGNS];
        int week;
        int paid;

        void begin(Plan plan) {
            for (int i = 0; i < CELLS; i++) {
                high[i] = plan.sun[i] >= 0 ? plan.height : 0;
                food[i] = 0;
            }
            for (int w = 0; w < MOST_WINDOWS; w++) {
                known[w] = 0;
            }
            for (int s = 0; s < MOST_SIGNS; s++) {
                timesCut[s] = 0;
            }
            week = 0;
            paid = 0;
        }

        void become(Lawn other) {
            System.arraycopy(other.high, 0, high, 0, CELLS);
            System.arraycopy(other.food, 0, food, 0, CELLS);
            System.arraycopy(other.known, 0, known, 0, MOST_WINDOWS);
            System.arraycopy(other.timesCut, 0, timesCut, 0, MOST_SIGNS);
            week = other.week;
            paid = other.paid;
        }

        int allCuts() {
            int sum = 0;
            for (int s = 0; s < MOST_SIGNS; s++) {
                sum += timesCut[s];
            }
            return sum;
        }
    }

    /** What happens to a lawn by the plan's laws; signs, windows, places and cells are the plan's. */
    private static final class Gardener {
        final int[] vars = new int[VARS];
        final int[] grown = new int[CELLS];
        final int[] knew = new int[MOST_WINDOWS];
        Plan plan;

        Gardener(Plan plan) {
            this.plan = plan;
        }

        int rainIn(int week, int seed) {
            return lot(100, seed, 4 * week) < plan.rainOften ? plan.rainMuch : 0;
        }

        private static int lot(int n, int seed, int which) {
            int h = mixed(mixed(seed, 97), which);
            return n > 0 ? (h >>> 1) % n : 0;
        }

        private static int mixed(int h, int with) {
            int m = (h ^ with) * 1103515245 + 12345;
            return m ^ m >>> 15;
        }

        int growth(Lawn lawn, int x, int y, int wet) {
            int i = indexOf(x, y);
            int[] high = lawn.high;
            setOwn(lawn, x, y);
            vars[WET] = wet;
            vars[BESIDE] = Math.max(Math.max(high[i - 1], high[i + 1]), Math.max(high[i - STRIDE], high[i + STRIDE]));
            return held(plan.grows.worth(vars), -9, 9);
        }

        private void setOwn(Lawn lawn, int x, int y) {
            int i = indexOf(x, y);
            vars[TALL] = lawn.high[i];
            vars[SUN] = plan.sun[i];
            vars[WEEK] = lawn.week;
            vars[WET] = 0;
            vars[FOOD] = lawn.food[i];
            vars[ACROSS] = x;
            vars[DOWN] = y;
            vars[BESIDE] = 0;
            vars[SIZE] = 0;
        }

        void giveFood(Lawn lawn, int x, int y) {
            setOwn(lawn, x, y);
            int i = indexOf(x, y);
            lawn.food[i] = Math.min(MOST_FOOD, lawn.food[i] + held(plan.feeds.worth(vars), 0, 9));
        }

        int fineFor(Lawn lawn, int sign, int x, int y) {
            for (int v = 0; v < VARS; v++) {
                vars[v] = 0;
            }
            vars[WEEK] = lawn.week;
            vars[ACROSS] = x;
            vars[DOWN] = y;
            vars[SIZE] = Integer.bitCount(plan.shape[sign]);
            return held(plan.fines.worth(vars), 0, 99);
        }

        void cutOut(Lawn lawn, int sign, int x, int y) {
            for (int i = 0; i < 9; i++) {
                if (plan.isCutAt(sign, i)) {
                    lawn.high[indexOf(x + i % 3, y + i / 3)] = 0;
                }
            }
        }

        int mowTo(Lawn lawn, int height) {
            int taller = 0;
            for (int i = 0; i < CELLS; i++) {
                if (lawn.high[i] > height) {
                    lawn.high[i] = height;
                    taller++;
                }
            }
            return taller;
        }

        void growWeeks(Lawn lawn, int n, int seed) {
            for (int w = 0; w < n; w++) {
                growWeek(lawn, seed);
            }
        }

        /** A week without what the windows learn. */
        void growWeek(Lawn lawn, int seed) {
            int wet = rainIn(lawn.week, seed);
            for (int y = 0; y < plan.rows; y++) {
                for (int x = 0; x < plan.width; x++) {
                    int i = indexOf(x, y);
                    grown[i] = plan.sun[i] >= 0 ? held(lawn.high[i] + growth(lawn, x, y, wet), 0, TALLEST) : 0;
                }
            }
            for (int y = 0; y < plan.rows; y++) {
                for (int x = 0; x < plan.width; x++) {
                    int i = indexOf(x, y);
                    lawn.high[i] = grown[i];
                    lawn.food[i] = Math.max(0, lawn.food[i] - 1);
                }
            }
            lawn.week++;
        }

        void live(Lawn lawn) {
            growWeek(lawn, plan.seed);
            System.arraycopy(lawn.known, 0, knew, 0, MOST_WINDOWS);
            for (int w = 0; w < plan.windows; w++) {
                for (int other = 0; other < plan.windows; other++) {
                    if (plan.talk(w, other)) {
                        lawn.known[w] |= knew[other];
                    }
                }
                for (int s = 0; s < plan.signs; s++) {
                    if ((lawn.known[w] >> s & 1) == 0 && readsAnywhere(lawn, w, s)) {
                        lawn.known[w] |= 1 << s;
                    }
                }
            }
        }

        int standsOut(Lawn lawn, int sign, int x, int y) {
            if (!plan.isReadable(sign)) {
                return NO_SHAPE;
            }
            int least = TALLEST;
            int most = 0;
            for (int i = 0; i < 9; i++) {
                int high = lawn.high[indexOf(x + i % 3, y + i / 3)];
                if (plan.isCutAt(sign, i)) {
                    most = Math.max(most, high);
                } else {
                    least = Math.min(least, high);
                }
            }
            return least - most;
        }

        int leastLeft(Lawn lawn, int sign, int x, int y) {
            int least = TALLEST;
            for (int i = 0; i < 9; i++) {
                if (!plan.isCutAt(sign, i)) {
                    least = Math.min(least, lawn.high[indexOf(x + i % 3, y + i / 3)]);
                }
            }
            return least;
        }

        /** How many of the sign's cells that are cut stand higher than is allowed. */
        int tooTall(Lawn lawn, int sign, int x, int y, int allowed) {
            int found = 0;
            for (int i = 0; i < 9; i++) {
                if (plan.isCutAt(sign, i) && lawn.high[indexOf(x + i % 3, y + i / 3)] > allowed) {
                    found++;
                }
            }
            return found;
        }

        boolean isRead(Lawn lawn, int window, int sign, int x, int y) {
            return plan.sees(window, x) && standsOut(lawn, sign, x, y) >= plan.sharp[window];
        }

        boolean readsAnywhere(Lawn lawn, int window, int sign) {
            for (int y = 0; y + 2 < plan.rows; y++) {
                for (int x = 0; x + 2 < plan.width; x++) {
                    if (isRead(lawn, window, sign, x, y)) {
                        return true;
                    }
                }
            }
            return false;
        }

        boolean someoneReads(Lawn lawn, int sign, int x, int y) {
            int by = standsOut(lawn, sign, x, y);
            for (int w = 0; w < plan.windows; w++) {
                if (plan.sees(w, x) && by >= plan.sharp[w]) {
                    return true;
                }
            }
            return false;
        }

        boolean anythingIsRead(Lawn lawn) {
            for (int s = 0; s < plan.signs; s++) {
                for (int y = 0; y + 2 < plan.rows; y++) {
                    for (int x = 0; x + 2 < plan.width; x++) {
                        if (someoneReads(lawn, s, x, y)) {
                            return true;
                        }
                    }
                }
            }
            return false;
        }
    }

    /** What can be undone, and what the slots hold. */
    private static final class Past {
        final Lawn[] before = new Lawn[MOST_UNDONE];
        final Lawn[] slots = new Lawn[MOST_SLOTS];
        final boolean[] holds = new boolean[MOST_SLOTS];
        int next;
        int things;

        Past() {
            for (int i = 0; i < MOST_UNDONE; i++) {
                before[i] = new Lawn();
            }
            for (int i = 0; i < MOST_SLOTS; i++) {
                slots[i] = new Lawn();
            }
        }

        void clear() {
            things = 0;
            for (int i = 0; i < MOST_SLOTS; i++) {
                holds[i] = false;
            }
        }

        void keep(Lawn now) {
            before[next].become(now);
            next = (next + 1) % MOST_UNDONE;
            things = Math.min(MOST_UNDONE, things + 1);
        }

        boolean takeBack(Lawn now) {
            if (things == 0) {
                return false;
            }
            things--;
            next = (next + MOST_UNDONE - 1) % MOST_UNDONE;
            now.become(before[next]);
            return true;
        }

        boolean put(int slot, Lawn now) {
            if (slot < 0 || slot >= MOST_SLOTS) {
                return false;
            }
            slots[slot].become(now);
            holds[slot] = true;
            return true;
        }

        boolean goOnFrom(int slot, Lawn now) {
            if (slot < 0 || slot >= MOST_SLOTS || !holds[slot]) {
                return false;
            }
            now.become(slots[slot]);
            things = 0;
            return true;
        }

        int slotsHeld() {
            int found = 0;
            for (int i = 0; i < MOST_SLOTS; i++) {
                if (holds[i]) {
                    found++;
                }
            }
            return found;
        }
    }

    /** What was TOLD, and the BLADES: a guess is a sign, a place and how many weeks ago. */
    private static final class Clues {
        private static final int AGES = MOST_AGO + 1;
        private static final int PLACES_ACROSS = 6;
        private static final int PLACES = 24;
        private static final int GUESSES = MOST_SIGNS * PLACES * AGES;
        private static final int BITS = 7;

        final Gardener gardener;
        final int[] toldX = new int[MOST_TOLD];
        final int[] toldY = new int[MOST_TOLD];
        final int[] toldHigh = new int[MOST_TOLD];
        int told;
        // The lawn to which nothing was done since the text's begin, at its week; its heights in the last weeks.
        final Lawn bare = new Lawn();
        final int[][] bareHigh = new int[AGES][CELLS];
        // How high all would be now: a long for each guess and row, BITS for each cell.
        final long[] outcome = new long[GUESSES * MOST_ROWS];
        int outcomeWeek = NONE;
        final boolean[] fits = new boolean[GUESSES];
        final int[] tally = new int[TALLEST + 1];
        final Lawn guess = new Lawn();
        final int[] after = new int[CELLS];
        // The box in which the guess is other than the bare lawn; none if right is less than left.
        int left;
        int right;
        int top;
        int bottom;

        Clues(Gardener gardener) {
            this.gardener = gardener;
        }

        void clear() {
            told = 0;
            outcomeWeek = NONE;
            beginBare();
        }

        int add(int x, int y, int high) {
            if (told >= MOST_TOLD) {
                return NONE;
            }
            toldX[told] = x;
            toldY[told] = y;
            toldHigh[told] = high;
            told++;
            return told - 1;
        }

        boolean has(int k) {
            return k >= 0 && k <= told;
        }

        /** Which guesses fit the first k that were told: how many. */
        int sift(int k) {
            int found = 0;
            for (int g = 0; g < GUESSES; g++) {
                fits[g] = isGuess(g, outcomeWeek) && agrees(g, k);
                if (fits[g]) {
                    found++;
                }
            }
            return found;
        }

        private boolean isGuess(int g, int week) {
            return ageOf(g) <= week && gardener.plan.hasPlace(signOf(g), xOf(g), yOf(g));
        }

        private boolean agrees(int g, int k) {
            for (int i = 0; i < k && i < told; i++) {
                if (highIn(g, toldX[i], toldY[i]) != toldHigh[i]) {
                    return false;
                }
            }
            return true;
        }

        int common(int what) {
            int same = NOT;
            for (int g = 0; g < GUESSES; g++) {
                if (fits[g]) {
                    int value = partOf(g, what);
                    if (same != NOT && same != value) {
                        return NOT;
                    }
                    same = value;
                }
            }
            return same;
        }

        int tellingCell() {
            Plan plan = gardener.plan;
            int least = GUESSES + 1;
            int where = NOT;
            for (int y = 0; y < plan.rows; y++) {
                for (int x = 0; x < plan.width; x++) {
                    int left = leftAtWorst(x, y);
                    if (left < least) {
                        least = left;
                        where = 10 * y + x;
                    }
                }
            }
            return where;
        }

        private int leftAtWorst(int x, int y) {
            for (int h = 0; h <= TALLEST; h++) {
                tally[h] = 0;
            }
            int most = 0;
            for (int g = 0; g < GUESSES; g++) {
                if (fits[g]) {
                    int high = held(highIn(g, x, y), 0, TALLEST);
                    tally[high]++;
                    most = Math.max(most, tally[high]);
                }
            }
            return most;
        }

        /** Finds how high all would be in a week, for each guess. */
        void growAll(int week) {
            if (outcomeWeek == week) {
                return;
            }
            growBare(week);
            for (int g = 0; g < GUESSES; g++) {
                if (isGuess(g, week)) {
                    ripen(g, week);
                    write(g);
                }
            }
            outcomeWeek = week;
        }

        private void beginBare() {
            bare.begin(gardener.plan);
            System.arraycopy(bare.high, 0, bareHigh[0], 0, CELLS);
        }

        private void growBare(int week) {
            if (bare.week > week) {
                beginBare();
            }
            for (int w = bare.week; w < week; w++) {
                gardener.growWeek(bare, gardener.plan.seed);
                System.arraycopy(bare.high, 0, bareHigh[bare.week % AGES], 0, CELLS);
            }
        }

        /** Lets a guess grow till now; once nothing of it is other than on the bare lawn, nothing will be. */
        private void ripen(int g, int week) {
            boolean spreads = gardener.plan.grows.uses(BESIDE);
            guess.week = week - ageOf(g);
            System.arraycopy(bareHigh[guess.week % AGES], 0, guess.high, 0, CELLS);
            gardener.cutOut(guess, signOf(g), xOf(g), yOf(g));
            left = xOf(g);
            right = left + 2;
            top = yOf(g);
            bottom = top + 2;
            for (int w = 0; w < ageOf(g) && left <= right; w++) {
                growGuess(spreads);
            }
            if (left > right) {
                System.arraycopy(bareHigh[week % AGES], 0, guess.high, 0, CELLS);
            }
        }

        private void growGuess(boolean spreads) {
            Plan plan = gardener.plan;
            int wet = gardener.rainIn(guess.week, plan.seed);
            int[] bareNow = bareHigh[guess.week % AGES];
            int[] bareNext = bareHigh[(guess.week + 1) % AGES];
            System.arraycopy(bareNext, 0, after, 0, CELLS);
            int reach = spreads ? 1 : 0;
            int firstX = Math.max(0, left - reach);
            int lastX = Math.min(plan.width - 1, right + reach);
            int firstY = Math.max(0, top - reach);
            int lastY = Math.min(plan.rows - 1, bottom + reach);
            closeBox();
            for (int y = firstY; y <= lastY; y++) {
                for (int x = firstX; x <= lastX; x++) {
                    int i = indexOf(x, y);
                    if (plan.sun[i] >= 0 && growsOtherwise(i, bareNow, spreads)) {
                        after[i] = held(guess.high[i] + gardener.growth(guess, x, y, wet), 0, TALLEST);
                        if (after[i] != bareNext[i]) {
                            widenBox(x, y);
                        }
                    }
                }
            }
            System.arraycopy(after, 0, guess.high, 0, CELLS);
            guess.week++;
        }

        private boolean growsOtherwise(int i, int[] bareNow, boolean spreads) {
            int[] high = guess.high;
            return high[i] != bareNow[i]
                || spreads && (high[i - 1] != bareNow[i - 1] || high[i + 1] != bareNow[i + 1]
                    || high[i - STRIDE] != bareNow[i - STRIDE] || high[i + STRIDE] != bareNow[i + STRIDE]);
        }

        private void closeBox() {
            left = MOST_LETTERS;
            right = NONE;
            top = MOST_ROWS;
            bottom = NONE;
        }

        private void widenBox(int x, int y) {
            left = Math.min(left, x);
            right = Math.max(right, x);
            top = Math.min(top, y);
            bottom = Math.max(bottom, y);
        }

        private void write(int g) {
            Plan plan = gardener.plan;
            for (int y = 0; y < plan.rows; y++) {
                long row = 0;
                for (int x = plan.width - 1; x >= 0; x--) {
                    row = row << BITS | guess.high[indexOf(x, y)];
                }
                outcome[g * MOST_ROWS + y] = row;
            }
        }

        private int highIn(int g, int x, int y) {
            return (int) (outcome[g * MOST_ROWS + y] >> BITS * x & 127);
        }

        private static int ageOf(int g) {
            return g % AGES;
        }

        private static int xOf(int g) {
            return g / AGES % PLACES % PLACES_ACROSS;
        }

        private static int yOf(int g) {
            return g / AGES % PLACES / PLACES_ACROSS;
        }

        private static int signOf(int g) {
            return g / AGES / PLACES;
        }

        private static int partOf(int g, int what) {
            switch (what) {
                case 0:
                    return signOf(g);
                case 1:
                    return xOf(g);
                case 2:
                    return yOf(g);
                default:
                    return ageOf(g);
            }
        }
    }
}
