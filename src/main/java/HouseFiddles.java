/** A town of boards and of the instruments that they are cut for; see the document for each call. */
public final class HouseFiddles {
    public static final int NONE = -1, BAD = -2, NO = -3, FULL = -4;

    private static final int BOARDS = 6, INSTRUMENTS = 4, STRINGS = 4, KINDS = 6, HOUSES = 4;
    private static final int IN_ONE = 4;
    private static final int OLDEST = 99, DAMPEST = 9, LAST_YEAR = 999;
    private static final int WETS = 5, WETTEST = 4;
    private static final int TOLD = 6, UNDOES = 8, TEXT = 150;
    private static final int YEARS_AT_ONCE = 60, YEARS_IN_TEXT = 99;
    private static final int LOUDEST_BOARD = 60, LOUDEST_INSTRUMENT = 200, LOUDEST_MARK = 400;
    private static final int LIKE = 4, BIDS = 10, TENTHS = 10, WEEPING = 3, ASKED_WITH = 20;
    private static final int LAST_SEED = 999999;
    private static final int REFUSED = -10, NOT_SO_MANY = -5;

    /** The columns of a BOARD, numbered as of() asks for them. */
    private static final int KIND = 0, AGE = 1, DAMP = 2, HOUSE = 3, WORM = 4, IN = 5;
    private static final int COLUMNS = 6;

    private final Town now;
    private final Town firstImage;
    private final Town secondImage;
    private final Boards trial;
    private final Table text;
    private final Reader reader;
    private final Maker maker;
    private final Table alike;
    private final Table friends;
    private boolean firstKept;
    private boolean secondKept;
    private long above;
    private long below;
    private int bads;
    private int nos;
    private int fulls;

    public HouseFiddles() {
        now = new Town();
        firstImage = new Town();
        secondImage = new Town();
        trial = new Boards();
        text = new Table(TEXT, 1);
        reader = new Reader();
        maker = new Maker();
        alike = new Table(Math.max(BOARDS, KINDS), 1);
        friends = new Table(INSTRUMENTS, 1);
        below = 1;
    }

    // ---- a town

    public int town() {
        int before = now.boards.many();
        now.empty();
        return before;
    }

    public int wet(int y, int w) {
        if (!within(y, 0, WETS - 1) || !within(w, 0, WETTEST)) {
            return bad();
        }
        int before = now.wets.get(y, 0);
        now.wets.put(y, 0, w);
        now.past.empty();
        return before;
    }

    public int board(int kind, int age, int damp, int house) {
        if (!isKind(kind) || !within(age, 0, OLDEST) || !within(damp, 0, DAMPEST) || !within(house, 0, HOUSES - 1)) {
            return bad();
        }
        if (now.boards.many() >= BOARDS) {
            return full();
        }
        now.past.empty();
        return now.boards.bring(kind, age, damp, house);
    }

    public int make(int kind) {
        if (!isKind(kind)) {
            return bad();
        }
        if (now.instruments.many() >= INSTRUMENTS) {
            return full();
        }
        now.past.empty();
        return now.bringInstrument(kind);
    }

    public int worm(int b, int is) {
        if (!now.boards.has(b) || !within(is, 0, 1)) {
            return bad();
        }
        int before = now.boards.cell(b, WORM);
        now.boards.set(b, WORM, is);
        now.past.empty();
        return before;
    }

    public int type(int c) {
        if (!within(c, 0, 127)) {
            return bad();
        }
        int row = text.newRow();
        if (row == NONE) {
            return full();
        }
        text.put(row, 0, c);
        return text.many();
    }

    public int clear() {
        int before = text.many();
        text.empty();
        return before;
    }

    public int read() {
        int items = reader.readAll(text);
        if (items >= 0) {
            now.become(reader.town);
        }
        return items;
    }

    // ---- years

    public int year(int n) {
        if (!within(n, 1, YEARS_AT_ONCE)) {
            return bad();
        }
        now.remember();
        now.passYears(n);
        return now.boards.wormy();
    }

    public int cuts(int b, int i) {
        if (!now.boards.has(b) || !now.hasInstrument(i)) {
            return bad();
        }
        if (!now.boards.isFree(b)) {
            return no();
        }
        if (now.boards.manyIn(i) >= IN_ONE) {
            return full();
        }
        now.remember();
        now.boards.set(b, IN, i);
        return now.boards.manyIn(i);
    }

    public int takes(int b) {
        if (!now.boards.has(b)) {
            return bad();
        }
        if (now.boards.isFree(b)) {
            return no();
        }
        now.remember();
        int before = now.boards.cell(b, IN);
        now.boards.set(b, IN, NONE);
        return before;
    }

    public int dries(int b, int n) {
        if (!now.boards.has(b) || !within(n, 1, DAMPEST)) {
            return bad();
        }
        if (now.boards.cell(b, DAMP) == 0) {
            return no();
        }
        now.remember();
        now.boards.lessDamp(b, n);
        return now.boards.cell(b, DAMP);
    }

    public int undo() {
        if (now.past.many() == 0) {
            return no();
        }
        now.stepBack();
        return now.boards.year;
    }

    public int of(int b, int what) {
        if (!now.boards.has(b) || !within(what, 0, COLUMNS - 1)) {
            return bad();
        }
        return now.boards.cell(b, what);
    }

    public int about(int i, int what) {
        if (!now.hasInstrument(i) || !within(what, 0, 2)) {
            return bad();
        }
        if (what == 0) {
            return now.instruments.get(i, 0);
        }
        return what == 1 ? now.boards.manyIn(i) : now.boards.housesIn(i);
    }

    // ---- how they sound

    public int sounds(int b, int s) {
        if (!now.boards.has(b) || !isString(s)) {
            return bad();
        }
        return now.boards.soundOf(b, s);
    }

    public int plays(int i, int s) {
        if (!now.hasInstrument(i) || !isString(s)) {
            return bad();
        }
        return now.playOf(i, s);
    }

    public int then(int i, int s, int m) {
        if (!now.hasInstrument(i) || !isString(s) || !within(m, 0, YEARS_AT_ONCE)) {
            return bad();
        }
        trial.become(now.boards);
        for (int y = 0; y < m; y++) {
            trial.passYear(now.wets);
        }
        return now.playOn(trial, i, s, 0);
    }

    public int waits(int b, int s, int x) {
        if (!now.boards.has(b) || !isString(s) || !within(x, 1, LOUDEST_BOARD)) {
            return bad();
        }
        trial.become(now.boards);
        for (int m = 0; m <= YEARS_AT_ONCE; m++) {
            if (trial.soundOf(b, s) >= x) {
                return m;
            }
            trial.passYear(now.wets);
        }
        return NONE;
    }

    public int dry(int i, int s, int x) {
        if (!now.hasInstrument(i) || !isString(s) || !within(x, 1, LOUDEST_INSTRUMENT)) {
            return bad();
        }
        for (int n = 0; n <= DAMPEST; n++) {
            if (playDried(i, s, n) >= x) {
                return n;
            }
        }
        return NONE;
    }

    public int tune(int i, int s, int x) {
        if (!now.hasInstrument(i) || !isString(s) || !within(x, 0, LOUDEST_INSTRUMENT)) {
            return bad();
        }
        int free = now.boards.maskIn(NONE);
        int fewest = NONE;
        for (int more = 0; more <= free; more++) {
            boolean fewer = fewest == NONE || Integer.bitCount(more) < Integer.bitCount(fewest);
            if (fewer && isPartOf(more, free) && now.playOn(now.boards, i, s, more) == x) {
                fewest = more;
            }
        }
        return fewest;
    }

    public int best(int s, int b) {
        if (!isString(s) || (b != NONE && !now.boards.has(b))) {
            return badAs(REFUSED);
        }
        if (now.instruments.many() == 0) {
            return NONE;
        }
        if (b != NONE && !now.boards.isFree(b)) {
            return now.boards.cell(b, IN);
        }
        maker.listen(now, s);
        return b == NONE ? maker.mostOfLeast(maker.free) : maker.placeOf(b);
    }

    public int together(int i, int s) {
        if (!now.hasInstrument(i) || !isString(s)) {
            return bad();
        }
        return now.likeOnes(i, s);
    }

    public int orchestra() {
        int many = now.instruments.many();
        for (int i = 0; i < many; i++) {
            int mask = now.likeOnes(i, 0);
            for (int s = 1; s < STRINGS; s++) {
                mask &= now.likeOnes(i, s);
            }
            friends.put(i, 0, mask);
        }
        int greatest = 0;
        for (int group = 1; group < 1 << many; group++) {
            if (Integer.bitCount(group) > Integer.bitCount(greatest) && areFriends(group)) {
                greatest = group;
            }
        }
        return greatest;
    }

    // ---- whose it was

    public int heard(int s, int x) {
        if (!isString(s) || !within(x, 0, LOUDEST_BOARD)) {
            return bad();
        }
        int row = now.heardOnes.newRow();
        if (row == NONE) {
            return full();
        }
        now.heardOnes.put(row, 0, s);
        now.heardOnes.put(row, 1, x);
        return now.heardOnes.many();
    }

    public int whose() {
        return now.heardBoards();
    }

    public int tells() {
        int boards = now.heardBoards();
        int parting = NONE;
        int fewest = BOARDS + 1;
        for (int s = 0; s < STRINGS && boards != 0; s++) {
            for (int b = 0; b < now.boards.many(); b++) {
                alike.put(b, 0, now.boards.soundOf(b, s));
            }
            int most = mostAlike(boards);
            if (most < fewest) {
                fewest = most;
                parting = s;
            }
        }
        return parting;
    }

    public int note(int b, int a, int d, int s, int x) {
        if (!now.boards.has(b) || !within(a, 0, OLDEST) || !within(d, 0, DAMPEST)
                || !isString(s) || !within(x, 0, LOUDEST_BOARD)) {
            return bad();
        }
        int row = now.notes.newRow();
        if (row == NONE) {
            return full();
        }
        now.notes.put(row, 0, b);
        now.notes.put(row, 1, a);
        now.notes.put(row, 2, d);
        now.notes.put(row, 3, s);
        now.notes.put(row, 4, x);
        return now.notes.many();
    }

    public int mark(int i, int x, int h, int n, int s, int y) {
        if (!now.hasInstrument(i) || !within(x, 0, LOUDEST_INSTRUMENT) || !within(h, 0, HOUSES)
                || !within(n, 0, IN_ONE) || !isString(s) || !within(y, 0, LOUDEST_MARK)) {
            return bad();
        }
        int row = now.marks.newRow();
        if (row == NONE) {
            return full();
        }
        now.marks.put(row, 0, i);
        now.marks.put(row, 1, x);
        now.marks.put(row, 2, h);
        now.marks.put(row, 3, n);
        now.marks.put(row, 4, s);
        now.marks.put(row, 5, y);
        return now.marks.many();
    }

    public int forget(int what) {
        if (!within(what, 0, 2)) {
            return bad();
        }
        Table told = what == 0 ? now.heardOnes : what == 1 ? now.notes : now.marks;
        int before = told.many();
        told.empty();
        return before;
    }

    public int is(int b) {
        return now.boards.has(b) ? now.notedKinds(b) : bad();
    }

    public int look(int b) {
        if (!now.boards.has(b)) {
            return bad();
        }
        int left = now.notedKinds(b);
        int age = now.boards.cell(b, AGE);
        int parting = NONE;
        int fewest = KINDS + 1;
        for (int place = 0; place < STRINGS * 10 && left != 0; place++) {
            for (int kind = 0; kind < KINDS; kind++) {
                alike.put(kind, 0, Wood.soundBy(kind, place / 10, age, place % 10));
            }
            int most = mostAlike(left);
            if (most < fewest) {
                fewest = most;
                parting = place;
            }
        }
        return parting;
    }

    public int kinds(int i) {
        return now.hasInstrument(i) ? now.markedKinds(i) : bad();
    }

    public int ask(int i) {
        if (!now.hasInstrument(i)) {
            return bad();
        }
        int left = now.markedKinds(i);
        int parting = NONE;
        int fewest = KINDS + 1;
        for (int place = 0; place < STRINGS * 100 && left != 0; place++) {
            int h = place / 10 % 10;
            int n = place % 10;
            if (h <= HOUSES && n <= IN_ONE) {
                int most = mostAlikeAsked(left, place / 100, h, n);
                if (most < fewest) {
                    fewest = most;
                    parting = place;
                }
            }
        }
        return parting;
    }

    public int bids(int i, int k) {
        if (!now.hasInstrument(i) || k < NONE) {
            return badAs(REFUSED);
        }
        int worth = Math.min(now.playOf(i, 0), BIDS - 1);
        int many = 0;
        for (int pair = 0; pair < BIDS * BIDS; pair++) {
            if (rests(worth, pair / BIDS, pair % BIDS)) {
                if (many == k) {
                    return pair;
                }
                many++;
            }
        }
        return k == NONE ? many : NOT_SO_MANY;
    }

    public int weeps(int i, int s, int c) {
        if (!now.hasInstrument(i) || !isString(s) || !within(c, 0, TENTHS)) {
            return bad();
        }
        int own = now.boards.maskIn(i);
        long sum = 0;
        for (int weeping = 0; weeping <= own; weeping++) {
            if (isPartOf(weeping, own)) {
                int dampened = Integer.bitCount(weeping);
                long odds = power(c, dampened) * power(TENTHS - c, Integer.bitCount(own) - dampened);
                sum += odds * playWeeping(i, s, weeping);
            }
        }
        keepFraction(sum, power(TENTHS, Integer.bitCount(own)));
        return 1;
    }

    public int generations(int seed, int n) {
        if (!within(seed, 0, LAST_SEED) || !within(n, 0, YEARS_AT_ONCE)) {
            return bad();
        }
        trial.become(now.boards);
        long x = seed;
        int all = 0;
        for (int y = 0; y < n; y++) {
            x = (x * 1103515245L + 12345L) % 2147483648L;
            int i = (int) (x / 65536 % 4);
            int s = (int) (x / 1048576 % 4);
            if (now.hasInstrument(i)) {
                all += now.playOn(trial, i, s, 0);
            }
            trial.passYear(now.wets);
        }
        return all;
    }

    // ---- what there is

    public long part(int what) {
        if (!within(what, 0, 1)) {
            return bad();
        }
        return what == 0 ? above : below;
    }

    public int image(int i) {
        if (!within(i, 0, 1)) {
            return bad();
        }
        if (i == 0) {
            firstImage.become(now);
            firstKept = true;
        } else {
            secondImage.become(now);
            secondKept = true;
        }
        return 1;
    }

    public int from(int i) {
        if (!within(i, 0, 1)) {
            return bad();
        }
        if (i == 0 ? !firstKept : !secondKept) {
            return no();
        }
        now.become(i == 0 ? firstImage : secondImage);
        return 1;
    }

    public int status(int what) {
        switch (what) {
            case 0: return bads;
            case 1: return nos;
            case 2: return fulls;
            default: return badAs(-1);
        }
    }

    public int count(int what) {
        switch (what) {
            case 0: return now.boards.many();
            case 1: return now.instruments.many();
            case 2: return now.boards.year;
            case 3: return now.boards.manyIn(NONE);
            case 4: return now.boards.wormy();
            case 5: return now.boards.dampOfAll();
            case 6: return now.heardOnes.many();
            case 7: return now.notes.many();
            case 8: return now.marks.many();
            case 9: return now.past.many();
            case 10: return text.many();
            default: return bad();
        }
    }

    public long digest() {
        long h = 1523;
        for (int what = 0; what <= 10; what++) {
            h = 31 * h + count(what);
        }
        h = now.wets.mixedInto(h);
        h = now.boards.cells.mixedInto(h);
        h = now.instruments.mixedInto(h);
        h = now.heardOnes.mixedInto(h);
        h = now.notes.mixedInto(h);
        h = now.marks.mixedInto(h);
        h = 31 * h + above;
        return 31 * h + below;
    }

    // ---- what the calls share

    private static boolean within(int number, int least, int most) {
        return number >= least && number <= most;
    }

    private static boolean isKind(int kind) {
        return within(kind, 0, KINDS - 1);
    }

    private static boolean isString(int s) {
        return within(s, 0, STRINGS - 1);
    }

    private static boolean isPartOf(int some, int all) {
        return (some & ~all) == 0;
    }

    private static boolean holdsBit(int mask, int bit) {
        return ((mask >> bit) & 1) == 1;
    }

    private int bad() {
        return badAs(BAD);
    }

    private int badAs(int answer) {
        bads++;
        return answer;
    }

    private int no() {
        nos++;
        return NO;
    }

    private int full() {
        fulls++;
        return FULL;
    }

    private int playDried(int i, int s, int n) {
        trial.become(now.boards);
        for (int b = 0; b < trial.many(); b++) {
            trial.lessDamp(b, n);
        }
        return now.playOn(trial, i, s, 0);
    }

    private int playWeeping(int i, int s, int weeping) {
        trial.become(now.boards);
        for (int b = 0; b < trial.many(); b++) {
            if (holdsBit(weeping, b)) {
                trial.moreDamp(b, WEEPING);
            }
        }
        return now.playOn(trial, i, s, 0);
    }

    private boolean areFriends(int group) {
        for (int i = 0; i < now.instruments.many(); i++) {
            if (holdsBit(group, i) && !isPartOf(group, friends.get(i, 0))) {
                return false;
            }
        }
        return true;
    }

    /** Of the rows of alike that are in the mask, how many at most hold the same. */
    private int mostAlike(int mask) {
        int most = 0;
        for (int k = 0; k < alike.rows; k++) {
            if (holdsBit(mask, k)) {
                most = Math.max(most, manyLike(alike.get(k, 0), mask));
            }
        }
        return most;
    }

    private int manyLike(int value, int mask) {
        int many = 0;
        for (int k = 0; k < alike.rows; k++) {
            if (holdsBit(mask, k) && alike.get(k, 0) == value) {
                many++;
            }
        }
        return many;
    }

    private int mostAlikeAsked(int left, int s, int h, int n) {
        for (int kind = 0; kind < KINDS; kind++) {
            alike.put(kind, 0, Strings.playBy(kind, s, ASKED_WITH, h, n));
        }
        return mostAlike(left);
    }

    private static int firstGets(int worth, int i, int j) {
        return i >= j ? worth - i : -(i / 2);
    }

    private static int secondGets(int worth, int i, int j) {
        return j > i ? worth - j : -(j / 2);
    }

    private static boolean rests(int worth, int i, int j) {
        for (int other = 0; other < BIDS; other++) {
            if (firstGets(worth, other, j) > firstGets(worth, i, j)
                    || secondGets(worth, i, other) > secondGets(worth, i, j)) {
                return false;
            }
        }
        return true;
    }

    private static long power(long base, int times) {
        long product = 1;
        for (int t = 0; t < times; t++) {
            product *= base;
        }
        return product;
    }

    private void keepFraction(long sum, long whole) {
        long divisor = commonDivisor(sum, whole);
        if (divisor > 0) {
            above = sum / divisor;
            below = whole / divisor;
        }
    }

    private static long commonDivisor(long sum, long whole) {
        long larger = sum;
        long smaller = whole;
        // what is left over falls by half in two turns, so that a hundred are more than enough
        for (int turn = 0; turn < 100 && smaller > 0; turn++) {
            long left = larger % smaller;
            larger = smaller;
            smaller = left;
        }
        return larger;
    }

    // ---- the parts of a town

    /** Rows of numbers; the one place where an array is indexed, so that every index is tested here. */
    private static final class Table {
        final int rows;
        final int width;
        final int[] cells;
        private int used;

        Table(int rows, int width) {
            this.rows = Math.max(rows, 0);
            this.width = Math.max(width, 0);
            cells = new int[this.rows * this.width];
        }

        int many() {
            return used;
        }

        void empty() {
            used = 0;
        }

        /** The number of a row that comes behind the used ones; NONE if all are used. */
        int newRow() {
            return used < rows ? used++ : NONE;
        }

        void dropLast() {
            used = Math.max(used - 1, 0);
        }

        void dropFirst() {
            if (used > 0 && width <= cells.length) {
                System.arraycopy(cells, width, cells, 0, cells.length - width);
                used--;
            }
        }

        int get(int row, int column) {
            int at = row * width + column;
            if (column < 0 || column >= width || at < 0 || at >= cells.length) {
                return 0;
            }
            return cells[at];
        }

        void put(int row, int column, int value) {
            int at = row * width + column;
            if (column >= 0 && column < width && at >= 0 && at < cells.length) {
                cells[at] = value;
            }
        }

        void become(Table other) {
            System.arraycopy(other.cells, 0, cells, 0, Math.min(cells.length, other.cells.length));
            used = Math.min(other.used, rows);
        }

        long mixedInto(long start) {
            long h = start;
            for (int row = 0; row < used; row++) {
                for (int column = 0; column < width; column++) {
                    h = 31 * h + get(row, column);
                }
            }
            return h;
        }
    }

    /** How the KINDS of BOARDS sound without WORM, each by what the one that it is under sounds. */
    private static final class Wood {
        static int soundBy(int kind, int s, int a, int d) {
            switch (kind) {
                case 1: return stair(s, door(a, d));
                case 2: return sill(s, door(a, d));
                case 3: return attic(s, door(a, d));
                case 4: return kitchen(s, stair(s, door(a, 0)));
                case 5: return marble(sill(s, door(a, d)));
                default: return door(a, d);
            }
        }

        private static int door(int a, int d) {
            return Math.max(a / 4 + 6 - d, 0);
        }

        private static int stair(int s, int door) {
            return s == 2 ? door + 3 : door;
        }

        private static int sill(int s, int door) {
            return s == 3 ? 2 * door : door;
        }

        private static int attic(int s, int door) {
            return s >= 2 ? door + 5 : door;
        }

        private static int kitchen(int s, int stair) {
            return s == 0 ? stair + 4 : stair;
        }

        private static int marble(int sill) {
            return sill / 3;
        }
    }

    /** How the KINDS of INSTRUMENTS play, each by what the one that it is under plays. */
    private static final class Strings {
        /** By all that its BOARDS sound (x), by how many HOUSES they are of (h), by how many they are (n). */
        static int playBy(int kind, int s, int x, int h, int n) {
            switch (kind) {
                case 1: return lent(x, h);
                case 2: return cello(s, x);
                case 3: return tenement(lent(x, h), h);
                case 4: return squeak(s, x, n);
                case 5: return bass(s, cello(s, x));
                default: return x;
            }
        }

        private static int lent(int fiddle, int h) {
            return Math.max(fiddle - 3 * Math.max(h - 1, 0), 0);
        }

        private static int cello(int s, int fiddle) {
            return s == 0 ? 2 * fiddle : fiddle;
        }

        private static int tenement(int lent, int h) {
            return h >= 3 ? 0 : lent;
        }

        private static int squeak(int s, int fiddle, int n) {
            return s == 3 ? fiddle + n : (fiddle + 1) / 2;
        }

        private static int bass(int s, int cello) {
            return s <= 1 ? cello : 0;
        }
    }

    /** All BOARDS and the YEAR: what a YEAR changes, and what is undone. */
    private static final class Boards {
        final Table cells = new Table(BOARDS, COLUMNS);
        int year;

        int many() {
            return cells.many();
        }

        boolean has(int b) {
            return b >= 0 && b < cells.many();
        }

        int cell(int b, int what) {
            return cells.get(b, what);
        }

        void set(int b, int what, int value) {
            cells.put(b, what, value);
        }

        void empty() {
            cells.empty();
            year = 0;
        }

        void become(Boards other) {
            cells.become(other.cells);
            year = other.year;
        }

        int bring(int kind, int age, int damp, int house) {
            int b = cells.newRow();
            cells.put(b, KIND, kind);
            cells.put(b, AGE, age);
            cells.put(b, DAMP, damp);
            cells.put(b, HOUSE, house);
            cells.put(b, WORM, 0);
            cells.put(b, IN, NONE);
            return b;
        }

        boolean isFree(int b) {
            return cells.get(b, IN) == NONE;
        }

        int maskIn(int i) {
            int mask = 0;
            for (int b = 0; b < cells.many(); b++) {
                if (cells.get(b, IN) == i) {
                    mask |= 1 << b;
                }
            }
            return mask;
        }

        int manyIn(int i) {
            return Integer.bitCount(maskIn(i));
        }

        int housesIn(int i) {
            int houses = 0;
            for (int b = 0; b < cells.many(); b++) {
                if (cells.get(b, IN) == i) {
                    houses |= 1 << cells.get(b, HOUSE);
                }
            }
            return Integer.bitCount(houses);
        }

        int wormy() {
            int wormy = 0;
            for (int b = 0; b < cells.many(); b++) {
                wormy += cells.get(b, WORM);
            }
            return wormy;
        }

        int dampOfAll() {
            int damp = 0;
            for (int b = 0; b < cells.many(); b++) {
                damp += cells.get(b, DAMP);
            }
            return damp;
        }

        void lessDamp(int b, int n) {
            cells.put(b, DAMP, Math.max(cells.get(b, DAMP) - n, 0));
        }

        void moreDamp(int b, int n) {
            cells.put(b, DAMP, Math.min(cells.get(b, DAMP) + n, DAMPEST));
        }

        int soundOf(int b, int s) {
            int clean = Wood.soundBy(cells.get(b, KIND), s, cells.get(b, AGE), cells.get(b, DAMP));
            return cells.get(b, WORM) == 1 ? clean / 2 : clean;
        }

        /** It may go beyond the last YEAR: what is only asked for goes on without an end. */
        void passYear(Table wets) {
            int wetness = wets.get(year % WETS, 0);
            int wormy = wormyNext();
            for (int b = 0; b < cells.many(); b++) {
                cells.put(b, AGE, Math.min(cells.get(b, AGE) + 1, OLDEST));
                if (isFree(b)) {
                    moreDamp(b, wetness);
                } else {
                    lessDamp(b, 1);
                }
                cells.put(b, WORM, (wormy >> b) & 1);
            }
            year++;
        }

        /** A mask, so that what gets WORM now does not hand it on in the same YEAR. */
        private int wormyNext() {
            int wormy = 0;
            for (int b = 0; b < cells.many(); b++) {
                if (cells.get(b, WORM) == 1) {
                    boolean down = b > 0 && cells.get(b - 1, IN) == cells.get(b, IN);
                    boolean up = b + 1 < cells.many() && cells.get(b + 1, IN) == cells.get(b, IN);
                    wormy |= (1 << b) | (down ? 1 << (b - 1) : 0) | (up ? 1 << (b + 1) : 0);
                }
            }
            return wormy;
        }

        void keepIn(Table past, int row) {
            for (int b = 0; b < BOARDS; b++) {
                for (int what = 0; what < COLUMNS; what++) {
                    past.put(row, COLUMNS * b + what, cells.get(b, what));
                }
            }
            past.put(row, BOARDS * COLUMNS, year);
        }

        void goBackTo(Table past, int row) {
            for (int b = 0; b < BOARDS; b++) {
                for (int what = 0; what < COLUMNS; what++) {
                    cells.put(b, what, past.get(row, COLUMNS * b + what));
                }
            }
            year = past.get(row, BOARDS * COLUMNS);
        }
    }

    /** All that an IMAGE keeps. */
    private static final class Town {
        final Boards boards = new Boards();
        final Table past = new Table(UNDOES, BOARDS * COLUMNS + 1);
        final Table wets = new Table(WETS, 1);
        final Table instruments = new Table(INSTRUMENTS, 1);
        final Table heardOnes = new Table(TOLD, 2);
        final Table notes = new Table(TOLD, 5);
        final Table marks = new Table(TOLD, 6);

        Town() {
            dryWets();
        }

        private void dryWets() {
            wets.empty();
            for (int y = 0; y < WETS; y++) {
                wets.put(wets.newRow(), 0, 0);
            }
        }

        void empty() {
            boards.empty();
            past.empty();
            dryWets();
            instruments.empty();
            heardOnes.empty();
            notes.empty();
            marks.empty();
        }

        void become(Town other) {
            boards.become(other.boards);
            past.become(other.past);
            wets.become(other.wets);
            instruments.become(other.instruments);
            heardOnes.become(other.heardOnes);
            notes.become(other.notes);
            marks.become(other.marks);
        }

        boolean hasInstrument(int i) {
            return i >= 0 && i < instruments.many();
        }

        int bringInstrument(int kind) {
            int i = instruments.newRow();
            instruments.put(i, 0, kind);
            return i;
        }

        void remember() {
            if (past.many() >= UNDOES) {
                past.dropFirst();
            }
            boards.keepIn(past, past.newRow());
        }

        void stepBack() {
            boards.goBackTo(past, past.many() - 1);
            past.dropLast();
        }

        void passYears(int n) {
            for (int y = 0; y < n && boards.year < LAST_YEAR; y++) {
                boards.passYear(wets);
            }
        }

        int playOf(int i, int s) {
            return playOn(boards, i, s, 0);
        }

        /** What an INSTRUMENT plays with more BOARDS beside its own; NONE if they are too many. */
        int playOn(Boards some, int i, int s, int more) {
            int x = 0;
            int houses = 0;
            int n = 0;
            for (int b = 0; b < some.many(); b++) {
                if (some.cell(b, IN) == i || holdsBit(more, b)) {
                    x += some.soundOf(b, s);
                    houses |= 1 << some.cell(b, HOUSE);
                    n++;
                }
            }
            return n > IN_ONE ? NONE : Strings.playBy(instruments.get(i, 0), s, x, Integer.bitCount(houses), n);
        }

        int likeOnes(int i, int s) {
            int played = playOf(i, s);
            int mask = 0;
            for (int j = 0; j < instruments.many(); j++) {
                if (Math.abs(playOf(j, s) - played) <= LIKE) {
                    mask |= 1 << j;
                }
            }
            return mask;
        }

        int heardBoards() {
            int mask = 0;
            for (int b = 0; b < boards.many(); b++) {
                if (soundsAsHeard(b)) {
                    mask |= 1 << b;
                }
            }
            return mask;
        }

        private boolean soundsAsHeard(int b) {
            for (int row = 0; row < heardOnes.many(); row++) {
                if (boards.soundOf(b, heardOnes.get(row, 0)) != heardOnes.get(row, 1)) {
                    return false;
                }
            }
            return true;
        }

        int notedKinds(int b) {
            int mask = 0;
            for (int kind = 0; kind < KINDS; kind++) {
                if (soundsAsNoted(kind, b)) {
                    mask |= 1 << kind;
                }
            }
            return mask;
        }

        private boolean soundsAsNoted(int kind, int b) {
            for (int row = 0; row < notes.many(); row++) {
                int sound = Wood.soundBy(kind, notes.get(row, 3), notes.get(row, 1), notes.get(row, 2));
                if (notes.get(row, 0) == b && sound != notes.get(row, 4)) {
                    return false;
                }
            }
            return true;
        }

        int markedKinds(int i) {
            int mask = 0;
            for (int kind = 0; kind < KINDS; kind++) {
                if (playsAsMarked(kind, i)) {
                    mask |= 1 << kind;
                }
            }
            return mask;
        }

        private boolean playsAsMarked(int kind, int i) {
            for (int row = 0; row < marks.many(); row++) {
                int s = marks.get(row, 4);
                int play = Strings.playBy(kind, s, marks.get(row, 1), marks.get(row, 2), marks.get(row, 3));
                if (marks.get(row, 0) == i && play != marks.get(row, 5)) {
                    return false;
                }
            }
            return true;
        }
    }

    /** The making by which the INSTRUMENT that plays least plays most. */
    private static final class Maker {
        private static final int MASKS = 1 << BOARDS, LOUDER_THAN_ALL = 1000000;

        /** What INSTRUMENT i plays with a mask of free BOARDS beside its own; NONE if they are too many. */
        private final Table played = new Table(INSTRUMENTS, MASKS);
        /** By the BOARDS that the INSTRUMENTS looked at so far take: the most that the least of these plays. */
        private final Table reached = new Table(MASKS, 1);
        /** The BOARDS that an INSTRUMENT is sure to take. */
        private final Table given = new Table(INSTRUMENTS, 1);
        private int instruments;
        int free;

        void listen(Town town, int s) {
            free = town.boards.maskIn(NONE);
            instruments = town.instruments.many();
            for (int i = 0; i < instruments; i++) {
                given.put(i, 0, 0);
                for (int mask = 0; mask <= free; mask++) {
                    if (isPartOf(mask, free)) {
                        played.put(i, mask, town.playOn(town.boards, i, s, mask));
                    }
                }
            }
        }

        /** How much the least plays at most, if any of the open BOARDS may go anywhere. */
        int mostOfLeast(int open) {
            for (int taken = 0; taken < MASKS; taken++) {
                reached.put(taken, 0, taken == 0 ? LOUDER_THAN_ALL : NONE);
            }
            for (int i = 0; i < instruments; i++) {
                // falling, so that the smaller masks still tell of the INSTRUMENTS ahead of this one
                for (int taken = open; taken >= 0; taken--) {
                    if (isPartOf(taken, open)) {
                        reached.put(taken, 0, mostWithShare(i, taken));
                    }
                }
            }
            int most = NONE;
            for (int taken = 0; taken <= open; taken++) {
                most = Math.max(most, reached.get(taken, 0));
            }
            return most;
        }

        private int mostWithShare(int i, int taken) {
            int most = NONE;
            for (int share = 0; share <= taken; share++) {
                if (isPartOf(share, taken)) {
                    int least = Math.min(reached.get(taken - share, 0), played.get(i, given.get(i, 0) | share));
                    most = Math.max(most, least);
                }
            }
            return most;
        }

        /** IN which INSTRUMENT a free BOARD is in the first of the best ways. */
        int placeOf(int wanted) {
            int most = mostOfLeast(free);
            int open = free;
            int place = NONE;
            for (int b = 0; b <= wanted && b < BOARDS; b++) {
                if (holdsBit(free, b)) {
                    open &= ~(1 << b);
                    place = firstPlace(b, open, most);
                }
            }
            return place;
        }

        private int firstPlace(int b, int open, int most) {
            if (mostOfLeast(open) == most) {
                return NONE;
            }
            for (int i = 0; i < instruments; i++) {
                int before = given.get(i, 0);
                given.put(i, 0, before | (1 << b));
                if (mostOfLeast(open) == most) {
                    return i;
                }
                given.put(i, 0, before);
            }
            return NONE;
        }
    }

    /** Reads THE TEXT into a town of its own, which stands only if there is no FAULT. */
    private static final class Reader {
        private final Tokens tokens = new Tokens();
        final Town town = new Town();
        /** The TOKEN that was taken last: its sort, the place of its first byte, which word or number it is. */
        private int sort;
        private int start;
        private int value;

        /** How many ITEMS; -10 less the FAULT, which is where the TOKEN taken last begins. */
        int readAll(Table text) {
            town.empty();
            tokens.split(text);
            for (int items = 0; items <= TEXT; items++) {
                take();
                if (sort == Tokens.END && items > 0) {
                    return items;
                }
                if (!readItem(items == 0)) {
                    return REFUSED - start;
                }
            }
            return REFUSED - start;
        }

        private boolean readItem(boolean first) {
            if (sort != Tokens.WORD || (value == Tokens.TOWN) != first) {
                return false;
            }
            switch (value) {
                case Tokens.TOWN: return takeStop();
                case Tokens.WET: return readWets();
                case Tokens.BOARD: return readBoard();
                case Tokens.MAKE: return readInstrument();
                case Tokens.CUT: return readCut();
                case Tokens.WORM_IN: return readWorm();
                case Tokens.YEARS: return readYears();
                default: return false;
            }
        }

        private boolean readWets() {
            for (int y = 0; y < WETS; y++) {
                take();
                if (sort == Tokens.STOP && y > 0) {
                    return true;
                }
                if (sort != Tokens.NUMBER || value > WETTEST) {
                    return false;
                }
                town.wets.put(y, 0, value);
            }
            return takeStop();
        }

        private boolean readBoard() {
            if (town.boards.many() >= BOARDS) {
                return false;
            }
            int kind = takeNumber(0, KINDS - 1);
            int age = kind == NONE ? NONE : takeNumber(0, OLDEST);
            int damp = age == NONE ? NONE : takeNumber(0, DAMPEST);
            int house = damp == NONE ? NONE : takeNumber(0, HOUSES - 1);
            if (house == NONE) {
                return false;
            }
            town.boards.bring(kind, age, damp, house);
            return takeStop();
        }

        private boolean readInstrument() {
            if (town.instruments.many() >= INSTRUMENTS) {
                return false;
            }
            int kind = takeNumber(0, KINDS - 1);
            if (kind == NONE) {
                return false;
            }
            town.bringInstrument(kind);
            return takeStop();
        }

        private boolean readCut() {
            int b = takeNumber(0, town.boards.many() - 1);
            if (b == NONE || !town.boards.isFree(b)) {
                return false;
            }
            int i = takeNumber(0, town.instruments.many() - 1);
            if (i == NONE || town.boards.manyIn(i) >= IN_ONE) {
                return false;
            }
            town.boards.set(b, IN, i);
            return takeStop();
        }

        private boolean readWorm() {
            int b = takeNumber(0, town.boards.many() - 1);
            if (b == NONE) {
                return false;
            }
            town.boards.set(b, WORM, 1);
            return takeStop();
        }

        private boolean readYears() {
            int n = takeNumber(1, YEARS_IN_TEXT);
            if (n == NONE) {
                return false;
            }
            town.passYears(n);
            return takeStop();
        }

        private boolean takeStop() {
            take();
            return sort == Tokens.STOP;
        }

        private int takeNumber(int least, int most) {
            take();
            return sort == Tokens.NUMBER && within(value, least, most) ? value : NONE;
        }

        private void take() {
            int row = tokens.next();
            sort = tokens.found.get(row, 0);
            start = tokens.found.get(row, 1);
            value = tokens.found.get(row, 2);
        }
    }

    /** THE TEXT as TOKENS, whatever may stand where; behind them END, which never runs out. */
    private static final class Tokens {
        static final int WORD = 0, NUMBER = 1, STOP = 2, END = 3, NO_TOKEN = 4;
        /** Which word it is: what a WORD has for its value. */
        static final int TOWN = 0, WET = 1, BOARD = 2, MAKE = 3, CUT = 4, WORM_IN = 5, YEARS = 6;
        private static final int WORDS = 7;

        /** Of each TOKEN its sort, the place of its first byte, its value. */
        final Table found = new Table(TEXT + 1, 3);
        private int taken;

        int next() {
            int row = taken;
            if (taken + 1 < found.many()) {
                taken++;
            }
            return row;
        }

        void split(Table text) {
            found.empty();
            taken = 0;
            int at = endOfRun(text, 0, ' ', ' ');
            for (int k = 0; k < TEXT && at < text.many(); k++) {
                at = endOfRun(text, splitOne(text, at), ' ', ' ');
            }
            add(END, text.many(), NONE);
        }

        /** The place behind the TOKEN that begins at a place. */
        private int splitOne(Table text, int at) {
            int behindLetters = endOfRun(text, at, 'a', 'z');
            if (behindLetters > at) {
                add(WORD, at, wordNumber(text, at, behindLetters - at));
                return behindLetters;
            }
            int behindFigures = endOfRun(text, at, '0', '9');
            if (behindFigures > at) {
                add(behindFigures - at > 2 ? NO_TOKEN : NUMBER, at, numberAt(text, at, behindFigures - at));
                return behindFigures;
            }
            add(text.get(at, 0) == ';' ? STOP : NO_TOKEN, at, NONE);
            return at + 1;
        }

        private void add(int sort, int start, int value) {
            int row = found.newRow();
            found.put(row, 0, sort);
            found.put(row, 1, start);
            found.put(row, 2, value);
        }

        private static int endOfRun(Table text, int start, int least, int most) {
            int end = start;
            while (end < text.many() && within(text.get(end, 0), least, most)) {
                end++;
            }
            return end;
        }

        /** A longer run is no number, whatever its first two figures tell. */
        private static int numberAt(Table text, int start, int length) {
            int number = text.get(start, 0) - '0';
            return length == 1 ? number : 10 * number + text.get(start + 1, 0) - '0';
        }

        private static int wordNumber(Table text, int start, int length) {
            for (int word = 0; word < WORDS; word++) {
                if (spells(text, textOf(word), start, length)) {
                    return word;
                }
            }
            return NONE;
        }

        private static boolean spells(Table text, String word, int start, int length) {
            if (word.length() != length) {
                return false;
            }
            for (int k = 0; k < length; k++) {
                if (word.charAt(k) != text.get(start + k, 0)) {
                    return false;
                }
            }
            return true;
        }

        private static String textOf(int word) {
            switch (word) {
                case TOWN: return "town";
                case WET: return "wet";
                case BOARD: return "board";
                case MAKE: return "make";
                case CUT: return "cut";
                case WORM_IN: return "worm";
                default: return "years";
            }
        }
    }
}
