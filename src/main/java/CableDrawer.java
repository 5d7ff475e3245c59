/** A drawer of cables that tangle, as ../shared/DOC.md tells it; the words in capitals are its Terms. */
public final class CableDrawer {
    public static final int NONE = -1;

    private static final int NO_TRAY = 1;
    private static final int NO_LEAD = 2;
    private static final int MISSING = 3;
    private static final int NO_PLACE = 4;
    private static final int BAD_NUMBER = 5;
    private static final int BELOW_ZERO = 6;
    private static final int ONE_TOO_MANY = 7;
    private static final int NOTHING = 8;
    private static final int CANNOT_BE = 9;
    private static final int FAULT = 10;
    private static final int UNLIKE_SORTS = 11;

    private static final int MOST_MARKS = 3;
    private static final int MOST_YEARS_BYTES = 300;
    private static final int LAST_SEED = 9999;
    private static final int MOST_SEEDS = 20;
    private static final int MOST_PENCE = 999;
    private static final int LONGEST_BOX = 99;

    private final Trays trays = new Trays();
    private final Tokens tape = new Tokens();
    private final DrawerText drawerText = new DrawerText(tape);
    private final YearsText yearsText = new YearsText(tape);
    private final Drawer drawer = new Drawer();
    private final Drawer spare = new Drawer();
    private final Drawer[] marks = {new Drawer(), new Drawer(), new Drawer()};
    private final Ways ways = new Ways();
    private final Worth worth = new Worth();
    private final Life life = new Life(ways);
    private int markCount;
    private int status;
    private long top;
    private long bottom = 1;

    public CableDrawer() {
    }

    public int status() {
        return status;
    }

    public long top() {
        return top;
    }

    public long bottom() {
        return bottom;
    }

    // ---- TRAYS.

    public boolean tray(int tray, int sort, int many) {
        return answers(!trays.isNumber(tray) || !trays.isSort(sort) ? NO_TRAY
                : many > Trays.MOST_PLACES ? BAD_NUMBER
                : many < 0 ? BELOW_ZERO : 0)
            && trays.lay(tray, sort, many);
    }

    public boolean write(int tray, int place, long v) {
        return answers(placeStatus(tray, place)) && trays.put(tray, place, v);
    }

    public long read(int tray, int place) {
        return answers(placeStatus(tray, place)) ? trays.at(tray, place) : NONE;
    }

    public boolean pour(int tray, int i, int to, int j, int many) {
        return answers(!trays.isNumber(tray) || !trays.isNumber(to) ? NO_TRAY
                : !trays.isThere(tray) || !trays.isThere(to) ? MISSING
                : !trays.alike(tray, to) ? UNLIKE_SORTS
                : many < 0 ? BELOW_ZERO
                : !trays.holds(tray, i, many) || !trays.holds(to, j, many) ? NO_PLACE : 0)
            && trays.move(tray, i, to, j, many);
    }

    // ---- texts.

    public int feed(int a, int b, int c, int d, int e) {
        if (!tape.hasRoom()) {
            return NONE;
        }
        tape.append(a);
        tape.append(b);
        tape.append(c);
        tape.append(d);
        return tape.append(e);
    }

    public int drawer(int n) {
        if (!answers(n < 0 || n > tape.fed() ? BAD_NUMBER : 0)) {
            return NONE;
        }
        tape.begin(n);
        if (!answers(drawerText.isGood(spare) ? 0 : FAULT)) {
            return NONE;
        }
        drawer.takeOver(spare);
        return drawer.leadCount();
    }

    public int years(int n) {
        if (!answers(n < 0 || n > tape.fed() || n > MOST_YEARS_BYTES ? BAD_NUMBER : 0)) {
            return NONE;
        }
        tape.begin(n);
        if (!answers(yearsText.isGood(drawer, spare.years) ? 0 : FAULT)) {
            return NONE;
        }
        drawer.years.takeOver(spare.years);
        return drawer.years.stepCount();
    }

    public int fault(int what) {
        return what == 0 ? tape.faultKind() : what == 1 ? tape.faultPlace() : NONE;
    }

    public int many(int what) {
        return answers(what < 0 || what > 7 ? BAD_NUMBER : 0) ? drawer.total(what) : NONE;
    }

    public int lead(int lead, int what) {
        if (!answers(!drawer.has(lead) ? NO_LEAD : what < 0 || what > 7 ? BAD_NUMBER : 0)) {
            return NONE;
        }
        return what == 6 ? drawer.countOn(lead) : drawer.number(what == 7 ? Drawer.RISK : what, lead);
    }

    public int crossing(int k, int what) {
        return answers(what < 0 || what > 2 ? BAD_NUMBER
                : k < 0 || k >= drawer.crossingCount() ? NOTHING : 0)
            ? drawer.crossingAt(what, k) : NONE;
    }

    public int along(int lead, int k) {
        return answers(!drawer.has(lead) ? NO_LEAD
                : k < 0 || k >= drawer.countOn(lead) ? NOTHING : 0)
            ? drawer.crossingOn(lead, k) : NONE;
    }

    public int look(int look) {
        return answers(drawer.hasLook(look) ? 0 : NO_LEAD) ? drawer.lookSet(look) : NONE;
    }

    public int between(int a, int b) {
        return answers(!drawer.has(a) || !drawer.has(b) ? NO_LEAD : a == b ? BAD_NUMBER : 0)
            ? drawer.countBetween(a, b) : NONE;
    }

    public int copyStates(int tray) {
        int count = drawer.crossingCount();
        if (!answers(!trays.isNumber(tray) ? NO_TRAY
                : !trays.isThere(tray) ? MISSING
                : !trays.holds(tray, 0, count) ? NO_PLACE : 0)) {
            return NONE;
        }
        for (int k = 0; k < count; k++) {
            trays.put(tray, k, drawer.stateAt(k));
        }
        return count;
    }

    // ---- what is done.

    public int follow(int lead, int end) {
        return answers(!drawer.has(lead) ? NO_LEAD
                : end < 0 || end > 1 ? BAD_NUMBER
                : !drawer.isIn(lead) ? CANNOT_BE
                : drawer.countOn(lead) == 0 ? NOTHING : 0)
            ? drawer.undoNearest(lead, end) : NONE;
    }

    public int loosen() {
        answers(0);
        return drawer.loosenOnce();
    }

    public int pull(int lead) {
        if (!answers(inStatus(lead))) {
            return NONE;
        }
        int lump = Lumps.around(drawer, lead, drawer.insideSet());
        drawer.pullAt(lead, Integer.bitCount(lump) == 1);
        return Integer.bitCount(lump);
    }

    public int cut(int lead) {
        return answers(inStatus(lead)) ? drawer.cutOff(lead) : NONE;
    }

    public boolean clip(int lead) {
        return answers(!drawer.has(lead) ? NO_LEAD : drawer.canGetClip(lead) ? 0 : CANNOT_BE)
            && drawer.putClip(lead);
    }

    public boolean unclip(int lead) {
        return answers(!drawer.has(lead) ? NO_LEAD
                : drawer.isIn(lead) && drawer.hasClip(lead) ? 0 : CANNOT_BE)
            && drawer.takeClip(lead);
    }

    public int cross(int over, int under, int state) {
        if (!answers(!drawer.has(over) || !drawer.has(under) ? NO_LEAD
                : over == under || state < Drawer.LOOSE || state > Drawer.KNOT ? BAD_NUMBER
                : drawer.isFull() ? ONE_TOO_MANY
                : drawer.canBeCrossed(over) && drawer.canBeCrossed(under) ? 0 : CANNOT_BE)) {
            return NONE;
        }
        drawer.addCrossing(over, under, state);
        return drawer.crossingCount();
    }

    public int open(int seed) {
        if (!answers(isSeed(seed) ? 0 : BAD_NUMBER)) {
            return NONE;
        }
        drawer.drawFrom(seed);
        return drawer.openOnce();
    }

    // ---- what hangs together.

    public int lump(int lead) {
        return answers(inStatus(lead)) ? Lumps.around(drawer, lead, drawer.insideSet()) : NONE;
    }

    public int lumps(int what) {
        if (!answers(what < 0 || what > 1 ? BAD_NUMBER : 0)) {
            return NONE;
        }
        return what == 0 ? Lumps.howMany(drawer) : Lumps.largest(drawer, drawer.insideSet());
    }

    public int comes(int lead) {
        return answers(inStatus(lead)) ? (Lumps.isLone(drawer, lead) ? 1 : 0) : NONE;
    }

    public int easy() {
        answers(0);
        return Lumps.lone(drawer);
    }

    public int free(int lead) {
        return answers(drawer.has(lead) ? 0 : NO_LEAD) ? (drawer.isFree(lead) ? 1 : 0) : NONE;
    }

    public int inState(int state) {
        return answers(state < Drawer.LOOSE || state > Drawer.KNOT ? BAD_NUMBER : 0)
            ? drawer.countInState(state) : NONE;
    }

    public int worse(int lead, int state) {
        if (!answers(!drawer.has(lead) ? NO_LEAD
                : state < Drawer.LOOSE || state > Drawer.KNOT ? BAD_NUMBER
                : drawer.isIn(lead) ? 0 : CANNOT_BE)) {
            return NONE;
        }
        spare.takeOver(drawer);
        spare.pullAt(lead, Lumps.isLone(drawer, lead));
        return spare.countInState(state) - drawer.countInState(state);
    }

    public int worst() {
        return answers(someIn()) ? drawer.mostCrossed() : NONE;
    }

    public int key() {
        return answers(someIn()) ? Lumps.bestCut(drawer) : NONE;
    }

    // ---- how long.

    public int alone(int lead) {
        if (!answers(inStatus(lead))) {
            return NONE;
        }
        int seconds = ways.find(drawer, lead);
        ways.keepWay();
        return seconds;
    }

    public int way(int what) {
        return answers(what < 0 || what > 3 ? BAD_NUMBER : ways.hasWay() ? 0 : NOTHING)
            ? ways.keptWay(what) : NONE;
    }

    public int follows(int lead, int i, int j) {
        return answers(!drawer.has(lead) ? NO_LEAD
                : !drawer.isIn(lead) ? CANNOT_BE
                : i < 0 || j < 0 || i > drawer.countOn(lead) || j > drawer.countOn(lead) - i ? BAD_NUMBER : 0)
            ? ways.secondsOfEnds(drawer, lead, i, j) : NONE;
    }

    public int all() {
        answers(0);
        return ways.findAll(drawer);
    }

    public int order(int k) {
        return answers(k < 0 || k >= ways.orderLength() ? NOTHING : 0) ? ways.inOrder(k) : NONE;
    }

    public int loosens() {
        return answers(ways.hasOrder() ? 0 : NOTHING) ? ways.loosensFirst() : NONE;
    }

    public int soonest() {
        return answers(someIn()) ? ways.soonestOf(drawer) : NONE;
    }

    // ---- what it is worth.

    public boolean fresh(int lead, int pence) {
        return answers(!drawer.has(lead) ? NO_LEAD
                : !drawer.isIn(lead) ? CANNOT_BE
                : isPence(pence) ? 0 : BAD_NUMBER)
            && tell((long) ways.find(drawer, lead) * pence - 60L * drawer.number(Drawer.COSTS, lead), 60);
    }

    public boolean grows() {
        return answers(0) && tell(worth.sixteenthsGrown(drawer), 16);
    }

    public int clips() {
        int openings = worth.openingsForClips(drawer);
        return answers(openings == NONE ? NOTHING : 0) ? openings : NONE;
    }

    public boolean tries(int look) {
        int set = drawer.lookSet(look) & drawer.insideSet();
        long used = worth.usedTogether(drawer, set);
        return answers(!drawer.hasLook(look) ? NO_LEAD : set == 0 ? NOTHING : used == 0 ? CANNOT_BE : 0)
            && tell(worth.triesTogether(drawer, set), used);
    }

    public int nextTry(int look, int k) {
        int set = drawer.lookSet(look) & drawer.insideSet();
        return answers(!drawer.hasLook(look) ? NO_LEAD
                : k < 0 || k >= Integer.bitCount(set) ? NOTHING : 0)
            ? worth.triedAt(drawer, set, k) : NONE;
    }

    public int boxes(int room) {
        return answers(room < 1 || room > LONGEST_BOX ? BAD_NUMBER
                : worth.longest(drawer) > room ? CANNOT_BE : 0)
            ? worth.fewestBoxes(drawer, room) : NONE;
    }

    public int waste(int pence) {
        return answers(isPence(pence) ? 0 : BAD_NUMBER) ? worth.thrown(drawer, pence) : NONE;
    }

    // ---- YEARS.

    public int live(int seed) {
        if (!answers(!isSeed(seed) ? BAD_NUMBER : drawer.years.isThere() ? 0 : NOTHING)) {
            return NONE;
        }
        int steps = life.run(drawer, seed);
        life.keepCounts();
        return steps;
    }

    public int lived(int what) {
        return answers(what < 0 || what > 4 ? BAD_NUMBER : life.hasCounts() ? 0 : NOTHING)
            ? life.keptCount(what) : NONE;
    }

    public boolean mean(int seed, int many) {
        if (!answers(seedsStatus(seed, many))) {
            return false;
        }
        long seconds = 0;
        for (int k = 0; k < many; k++) {
            spare.takeOver(drawer);
            life.run(spare, seed + k);
            seconds += spare.secondsSpent() - drawer.secondsSpent();
        }
        return tell(seconds, many);
    }

    public boolean odds(int lead, int seed, int many) {
        if (!answers(drawer.has(lead) ? seedsStatus(seed, many) : NO_LEAD)) {
            return false;
        }
        long free = 0;
        for (int k = 0; k < many; k++) {
            spare.takeOver(drawer);
            life.run(spare, seed + k);
            free += spare.isFree(lead) ? 1 : 0;
        }
        return tell(free, many);
    }

    // ---- MARKS.

    public int mark() {
        if (!answers(markCount >= MOST_MARKS ? ONE_TOO_MANY : 0)) {
            return NONE;
        }
        Drawer kept = markAt(markCount);
        if (kept != null) {
            kept.takeOver(drawer);
            markCount++;
        }
        return markCount;
    }

    public int back() {
        if (!answers(markCount <= 0 ? NOTHING : 0)) {
            return NONE;
        }
        markCount--;
        drawer.takeOver(markAt(markCount));
        return markCount;
    }

    // ---- what the calls share.

    private boolean answers(int what) {
        status = what;
        return what == 0;
    }

    private int placeStatus(int tray, int place) {
        return !trays.isNumber(tray) ? NO_TRAY
            : !trays.isThere(tray) ? MISSING
            : trays.holds(tray, place, 1) ? 0 : NO_PLACE;
    }

    private int inStatus(int lead) {
        return !drawer.has(lead) ? NO_LEAD : drawer.isIn(lead) ? 0 : CANNOT_BE;
    }

    private int someIn() {
        return drawer.insideSet() == 0 ? NOTHING : 0;
    }

    private int seedsStatus(int seed, int many) {
        return !isSeed(seed) || many < 1 || many > MOST_SEEDS || !isSeed(seed + many - 1) ? BAD_NUMBER
            : drawer.years.isThere() ? 0 : NOTHING;
    }

    private Drawer markAt(int i) {
        return i >= 0 && i < marks.length ? marks[i] : null;
    }

    private boolean tell(long above, long below) {
        long divisor = commonDivisor(Math.abs(above), below);
        if (divisor > 0) {
            top = above / divisor;
            bottom = below / divisor;
        }
        return true;
    }

    private static long commonDivisor(long a, long b) {
        long left = a;
        long right = b;
        // Two numbers of 64 bits are through after fewer than a hundred divisions.
        for (int turn = 0; turn < 100 && right != 0; turn++) {
            long rest = left % right;
            left = right;
            right = rest;
        }
        return left;
    }

    private static boolean isSeed(int seed) {
        return seed >= 0 && seed <= LAST_SEED;
    }

    private static boolean isPence(int pence) {
        return pence >= 0 && pence <= MOST_PENCE;
    }

    /** Ints in rows of one width; what lies outside reads 0 and can't be written. */
    private static final class Table {
        private final int rows;
        private final int width;
        private final int[] cells;

        Table(int rows, int width) {
            boolean fits = rows > 0 && width > 0 && rows <= 1000 && width <= 1000;
            this.rows = fits ? rows : 0;
            this.width = fits ? width : 0;
            this.cells = new int[fits ? rows * width : 0];
        }

        int at(int row, int place) {
            if (row < 0 || row >= rows || place < 0 || place >= width) {
                return 0;
            }
            int i = row * width + place;
            return i >= 0 && i < cells.length ? cells[i] : 0;
        }

        void put(int row, int place, int v) {
            if (row < 0 || row >= rows || place < 0 || place >= width) {
                return;
            }
            int i = row * width + place;
            if (i >= 0 && i < cells.length) {
                cells[i] = v;
            }
        }

        void takeOver(Table from) {
            if (from == null) {
                return;
            }
            for (int i = 0; i < cells.length && i < from.cells.length; i++) {
                cells[i] = from.cells[i];
            }
        }
    }

    /** The four TRAYS. */
    private static final class Trays {
        static final int MOST_PLACES = 60;
        private static final int COUNT = 4;
        private static final int SIZE = 0;
        private static final int SORT = 1;
        private static final int THERE = 2;

        private final long[] places = new long[COUNT * MOST_PLACES];
        private final Table facts = new Table(3, COUNT);

        boolean isNumber(int tray) {
            return tray >= 0 && tray < COUNT;
        }

        boolean isSort(int sort) {
            return sort >= 0 && sort <= 3;
        }

        boolean isThere(int tray) {
            return facts.at(THERE, tray) == 1;
        }

        boolean alike(int tray, int other) {
            return facts.at(SORT, tray) == facts.at(SORT, other);
        }

        /** Whether a TRAY has so many numbers from a place on. */
        boolean holds(int tray, int place, int many) {
            return place >= 0 && many >= 0 && place <= facts.at(SIZE, tray) - many;
        }

        boolean lay(int tray, int sort, int many) {
            facts.put(SIZE, tray, many);
            facts.put(SORT, tray, sort);
            facts.put(THERE, tray, 1);
            for (int place = 0; place < many; place++) {
                put(tray, place, 0);
            }
            return true;
        }

        long at(int tray, int place) {
            int i = indexOf(tray, place);
            return i >= 0 && i < places.length ? places[i] : NONE;
        }

        boolean put(int tray, int place, long v) {
            int i = indexOf(tray, place);
            if (i >= 0 && i < places.length) {
                places[i] = cutTo(facts.at(SORT, tray), v);
            }
            return true;
        }

        /** Goes from the side on which nothing is overwritten before it is read. */
        boolean move(int tray, int i, int to, int j, int many) {
            boolean upward = j <= i;
            for (int n = 0; n < many; n++) {
                int k = upward ? n : many - 1 - n;
                put(to, j + k, at(tray, i + k));
            }
            return true;
        }

        private int indexOf(int tray, int place) {
            return isNumber(tray) && holds(tray, place, 1) ? tray * MOST_PLACES + place : NONE;
        }

        private static long cutTo(int sort, long v) {
            return sort == 0 ? (byte) v : sort == 1 ? (short) v : sort == 2 ? (int) v : v;
        }
    }

    /** The tape, and the TOKENS of a text at its beginning, one after the other. */
    private static final class Tokens {
        static final int CANNOT_STAND = 2;
        static final int WRONG_NAME = 3;
        static final int WRONG_NUMBER = 4;
        static final int WRONG_LEAD = 5;
        static final int TOO_MANY = 6;
        static final int TOO_DEEP = 7;

        /** The words that are no NAME; each one's number is its place here. */
        private static final String WORDS =
            "lead long stiff ends costs used clip cross threaded tight knot look open take loosen pull from cut when lump free loop end stop ";
        static final int LEAD = 0;
        static final int LONG = 1;
        static final int STIFF = 2;
        static final int ENDS = 3;
        static final int COSTS = 4;
        static final int USED = 5;
        static final int CLIP = 6;
        static final int CROSS = 7;
        static final int THREADED = 8;
        static final int TIGHT = 9;
        static final int KNOT = 10;
        static final int LOOK = 11;
        static final int OPEN = 12;
        static final int TAKE = 13;
        static final int LOOSEN = 14;
        static final int PULL = 15;
        static final int CUT = 17;
        static final int WHEN = 18;
        static final int LUMP = 19;
        static final int FREE = 20;
        static final int LOOP = 21;
        static final int END = 22;
        static final int STOP = 23;

        private static final int MOST_BYTES = 900;
        private static final int BYTES_AT_ONCE = 20;
        private static final int UNKNOWN = 1;
        private static final int LONGEST_NAME = 8;
        private static final int LONGEST_NUMBER = 4;

        private static final int KIND_END = 0;
        private static final int KIND_BAD = 1;
        private static final int KIND_WORD = 2;
        private static final int KIND_NUMBER = 3;
        private static final int KIND_SIGN = 4;

        private final int[] bytes = new int[MOST_BYTES];
        private int length;
        private int size;
        private int kind;
        private int start;
        private int stop;
        private int word;
        private int faultKind = NONE;
        private int faultPlace = NONE;

        int fed() {
            return length;
        }

        boolean hasRoom() {
            return length + BYTES_AT_ONCE <= MOST_BYTES;
        }

        int append(int four) {
            for (int shift = 24; shift >= 0; shift -= 8) {
                if (length >= 0 && length < bytes.length) {
                    bytes[length] = (four >>> shift) & 255;
                    length++;
                }
            }
            return length;
        }

        /** The first n bytes become the text, the tape is empty, and the first TOKEN stands. */
        void begin(int n) {
            size = Math.min(n, length);
            length = 0;
            stop = 0;
            faultKind = 0;
            faultPlace = NONE;
            next();
        }

        int faultKind() {
            return faultKind;
        }

        int faultPlace() {
            return faultPlace;
        }

        /** Notes a fault at the TOKEN that stands; one that is no TOKEN at all has the least kind. */
        boolean fail(int fault) {
            faultKind = kind == KIND_BAD ? UNKNOWN : fault;
            faultPlace = start;
            return false;
        }

        void next() {
            start = Math.max(stop, 0);
            while (start < size && isBlank(byteAt(start))) {
                start++;
            }
            stop = start;
            while (stop < size && isLetter(byteAt(stop))) {
                stop++;
            }
            word = NONE;
            if (stop > start) {
                kind = KIND_WORD;
                word = numberOfWord();
                return;
            }
            while (stop < size && isDigit(byteAt(stop))) {
                stop++;
            }
            if (stop > start) {
                kind = stop - start <= LONGEST_NUMBER ? KIND_NUMBER : KIND_BAD;
                return;
            }
            kind = start >= size ? KIND_END : isSign(byteAt(start)) ? KIND_SIGN : KIND_BAD;
            stop = Math.min(start + 1, size);
        }

        boolean atEnd() {
            return kind == KIND_END;
        }

        boolean wordIs(int w) {
            return kind == KIND_WORD && word == w;
        }

        /** The number of the word that stands, NONE if it is none of WORDS or no WORD. */
        int word() {
            return word;
        }

        boolean nameStands() {
            return kind == KIND_WORD && word == NONE && stop - start <= LONGEST_NAME;
        }

        /** The NAME that stands, five bits a letter. */
        long name() {
            long code = 0;
            for (int i = start; i < stop; i++) {
                code = code * 32 + byteAt(i) - 'a' + 1;
            }
            return code;
        }

        boolean signIs(int sign) {
            return kind == KIND_SIGN && byteAt(start) == sign;
        }

        boolean passWord(int w) {
            if (!wordIs(w)) {
                return fail(CANNOT_STAND);
            }
            next();
            return true;
        }

        boolean passSign(int sign) {
            if (!signIs(sign)) {
                return fail(CANNOT_STAND);
            }
            next();
            return true;
        }

        /** The NUMBER that stands, and on to the next TOKEN; NONE, and a fault, if it can't be. */
        int passNumber(int least, int most) {
            if (kind != KIND_NUMBER) {
                fail(CANNOT_STAND);
                return NONE;
            }
            int v = 0;
            for (int i = start; i < stop; i++) {
                v = v * 10 + byteAt(i) - '0';
            }
            if (v < least || v > most) {
                fail(WRONG_NUMBER);
                return NONE;
            }
            next();
            return v;
        }

        private int numberOfWord() {
            int number = 0;
            int at = start;
            boolean same = true;
            for (int i = 0; i < WORDS.length(); i++) {
                char c = WORDS.charAt(i);
                if (c != ' ') {
                    same = same && at < stop && byteAt(at) == c;
                    at++;
                } else if (same && at == stop) {
                    return number;
                } else {
                    number++;
                    at = start;
                    same = true;
                }
            }
            return NONE;
        }

        private int byteAt(int i) {
            return i >= 0 && i < size && i < bytes.length ? bytes[i] : NONE;
        }

        private static boolean isBlank(int c) {
            return c == 10 || c == 32;
        }

        private static boolean isLetter(int c) {
            return c >= 'a' && c <= 'z';
        }

        private static boolean isDigit(int c) {
            return c >= '0' && c <= '9';
        }

        private static boolean isSign(int c) {
            return c == ';' || c == '<' || c == '>' || c == '=';
        }
    }

    /** A DRAWER, what became of it, and its YEARS. Sets of LEADS are ints, a bit for each. */
    private static final class Drawer {
        static final int MOST_LEADS = 8;
        static final int MOST_CROSSINGS = 24;
        static final int MOST_LOOKS = 3;

        // The first six are what lead() calls them.
        static final int LONG = 0;
        static final int STIFF = 1;
        static final int FIRST_END = 2;
        static final int SECOND_END = 3;
        static final int COSTS = 4;
        static final int USED = 5;
        static final int RISK = 6;

        static final int OVER = 0;
        static final int UNDER = 1;
        static final int STATE = 2;

        // One step looser than LOOSE is gone.
        static final int GONE = -1;
        static final int LOOSE = 0;
        static final int THREADED = 1;
        static final int TIGHT = 2;
        static final int KNOT = 3;

        private static final int PULL_SECONDS = 2;
        private static final int CLIP_SECONDS = 12;
        private static final int MOST_RISK = 15;
        private static final int LARGEST_END = 9;

        final Years years = new Years();
        private final Table numbers = new Table(7, MOST_LEADS);
        private final Table crossings = new Table(3, MOST_CROSSINGS);
        private final Table looks = new Table(1, MOST_LOOKS);
        private final long[] names = new long[MOST_LEADS + MOST_LOOKS];
        private int leadCount;
        private int crossingCount;
        private int lookCount;
        private int inside;
        private int clipped;
        private int seconds;
        private int pence;
        private int openings;
        private int draw;

        void clear() {
            years.clear();
            leadCount = 0;
            crossingCount = 0;
            lookCount = 0;
            inside = 0;
            clipped = 0;
            seconds = 0;
            pence = 0;
            openings = 0;
        }

        void takeOver(Drawer from) {
            if (from == null) {
                return;
            }
            years.takeOver(from.years);
            numbers.takeOver(from.numbers);
            crossings.takeOver(from.crossings);
            looks.takeOver(from.looks);
            for (int i = 0; i < names.length && i < from.names.length; i++) {
                names[i] = from.names[i];
            }
            leadCount = from.leadCount;
            crossingCount = from.crossingCount;
            lookCount = from.lookCount;
            inside = from.inside;
            clipped = from.clipped;
            seconds = from.seconds;
            pence = from.pence;
            openings = from.openings;
        }

        // -- what stands in it

        int leadCount() {
            return leadCount;
        }

        int crossingCount() {
            return crossingCount;
        }

        int lookCount() {
            return lookCount;
        }

        int insideSet() {
            return inside;
        }

        int secondsSpent() {
            return seconds;
        }

        int total(int what) {
            return switch (what) {
                case 0 -> leadCount;
                case 1 -> crossingCount;
                case 2 -> lookCount;
                case 3 -> inside;
                case 4 -> clipped & inside;
                case 5 -> seconds;
                case 6 -> pence;
                default -> openings;
            };
        }

        boolean has(int lead) {
            return lead >= 0 && lead < leadCount;
        }

        boolean hasLook(int look) {
            return look >= 0 && look < lookCount;
        }

        boolean isIn(int lead) {
            return has(lead) && (inside >> lead & 1) == 1;
        }

        boolean hasClip(int lead) {
            return has(lead) && (clipped >> lead & 1) == 1;
        }

        boolean isFull() {
            return crossingCount >= MOST_CROSSINGS;
        }

        boolean isFree(int lead) {
            return isIn(lead) && countOn(lead) == 0;
        }

        boolean canGetClip(int lead) {
            return isFree(lead) && !hasClip(lead);
        }

        boolean canBeCrossed(int lead) {
            return isIn(lead) && !hasClip(lead);
        }

        /** Those that can be crossed at an OPENING. */
        int unclippedSet() {
            return inside & ~clipped;
        }

        int number(int what, int lead) {
            return numbers.at(what, lead);
        }

        int lookSet(int look) {
            return hasLook(look) ? looks.at(0, look) : 0;
        }

        int crossingAt(int what, int k) {
            return crossings.at(what, k);
        }

        int stateAt(int k) {
            return crossings.at(STATE, k);
        }

        /** The LEAD that crosses this one there; NONE if the CROSSING is not of this one. */
        int otherAt(int k, int lead) {
            int over = crossings.at(OVER, k);
            int under = crossings.at(UNDER, k);
            return over == lead ? under : under == lead ? over : NONE;
        }

        int countOn(int lead) {
            int count = 0;
            for (int k = 0; k < crossingCount; k++) {
                count += otherAt(k, lead) == NONE ? 0 : 1;
            }
            return count;
        }

        int countBetween(int lead, int other) {
            int count = 0;
            for (int k = 0; k < crossingCount; k++) {
                count += otherAt(k, lead) == other ? 1 : 0;
            }
            return count;
        }

        int countInState(int state) {
            int count = 0;
            for (int k = 0; k < crossingCount; k++) {
                count += stateAt(k) == state ? 1 : 0;
            }
            return count;
        }

        /** The number of a LEAD's n-th CROSSING from its END 0, NONE without one. */
        int crossingOn(int lead, int n) {
            int left = n;
            for (int k = 0; k < crossingCount; k++) {
                if (otherAt(k, lead) != NONE) {
                    if (left == 0) {
                        return k;
                    }
                    left--;
                }
            }
            return NONE;
        }

        int mostCrossed() {
            int found = NONE;
            int most = NONE;
            for (int lead = 0; lead < leadCount; lead++) {
                if (isIn(lead) && countOn(lead) > most) {
                    found = lead;
                    most = countOn(lead);
                }
            }
            return found;
        }

        // -- what its text puts there

        int leadNamed(long name) {
            for (int i = 0; i < leadCount && i < names.length; i++) {
                if (names[i] == name) {
                    return i;
                }
            }
            return NONE;
        }

        boolean isTaken(long name) {
            for (int i = MOST_LEADS; i < MOST_LEADS + lookCount && i < names.length; i++) {
                if (names[i] == name) {
                    return true;
                }
            }
            return leadNamed(name) != NONE;
        }

        int addLead(long name) {
            int lead = leadCount;
            if (lead >= 0 && lead < MOST_LEADS && lead < names.length) {
                names[lead] = name;
                leadCount++;
                inside |= 1 << lead;
                numbers.put(STIFF, lead, 0);
                numbers.put(FIRST_END, lead, 3);
                numbers.put(SECOND_END, lead, 3);
                numbers.put(COSTS, lead, 0);
                numbers.put(USED, lead, 0);
            }
            return lead;
        }

        void setNumber(int what, int lead, int v) {
            numbers.put(what, lead, v);
            int risk = numbers.at(LONG, lead) / 2 - numbers.at(STIFF, lead);
            numbers.put(RISK, lead, Math.max(0, Math.min(MOST_RISK, risk)));
        }

        void setClip(int lead) {
            clipped |= has(lead) ? 1 << lead : 0;
        }

        int addLook(long name) {
            int look = lookCount;
            int i = MOST_LEADS + look;
            if (look >= 0 && look < MOST_LOOKS && i < names.length) {
                names[i] = name;
                looks.put(0, look, 0);
                lookCount++;
            }
            return look;
        }

        void addToLook(int look, int lead) {
            if (hasLook(look) && has(lead)) {
                looks.put(0, look, looks.at(0, look) | 1 << lead);
            }
        }

        boolean addCrossing(int over, int under, int state) {
            if (isFull()) {
                return false;
            }
            crossings.put(OVER, crossingCount, over);
            crossings.put(UNDER, crossingCount, under);
            crossings.put(STATE, crossingCount, state);
            crossingCount++;
            return true;
        }

        // -- what is done to it

        int secondsToUndo(int state, int other) {
            int bare = state == LOOSE ? 1 : state == THREADED ? 3 : state == TIGHT ? 6 : 15;
            return bare + numbers.at(STIFF, other);
        }

        /** SECONDS of FOLLOWING a LEAD once from an END at which there is a CROSSING. */
        int undoNearest(int lead, int end) {
            int k = crossingOn(lead, end == 0 ? 0 : countOn(lead) - 1);
            int spent = secondsToUndo(stateAt(k), otherAt(k, lead));
            crossings.put(STATE, k, GONE);
            sweep();
            seconds += spent;
            return spent;
        }

        int loosenOnce() {
            int spent = crossingCount;
            for (int k = 0; k < crossingCount; k++) {
                crossings.put(STATE, k, stateAfter(k, 1));
            }
            sweep();
            seconds += spent;
            return spent;
        }

        /** The STATE of a CROSSING when all is LOOSENED so often; below LOOSE it is gone. */
        int stateAfter(int k, int loosened) {
            int state = crossings.at(STATE, k);
            return state == KNOT ? KNOT : state - loosened;
        }

        /** SECONDS of LOOSENING so often, one time after the other. */
        int secondsToLoosen(int often) {
            int spent = 0;
            for (int k = 0; k < crossingCount; k++) {
                // A CROSSING is there for one LOOSENING more than it has steps to go.
                spent += stateAt(k) == KNOT ? often : Math.min(often, stateAt(k) + 1);
            }
            return spent;
        }

        void pullAt(int lead, boolean itComes) {
            for (int k = 0; k < crossingCount; k++) {
                if (otherAt(k, lead) != NONE) {
                    int state = stateAt(k);
                    boolean goes = itComes || state == LOOSE;
                    crossings.put(STATE, k, goes ? GONE : Math.min(KNOT, state + 1));
                }
            }
            sweep();
            seconds += PULL_SECONDS;
        }

        int cutOff(int lead) {
            int ahead = crossingCount;
            for (int k = 0; k < crossingCount; k++) {
                if (otherAt(k, lead) != NONE) {
                    crossings.put(STATE, k, GONE);
                }
            }
            sweep();
            pence += numbers.at(COSTS, lead);
            inside &= has(lead) ? ~(1 << lead) : inside;
            return ahead - crossingCount;
        }

        boolean putClip(int lead) {
            setClip(lead);
            seconds += CLIP_SECONDS;
            return true;
        }

        boolean takeClip(int lead) {
            clipped &= has(lead) ? ~(1 << lead) : clipped;
            return true;
        }

        private void sweep() {
            int kept = 0;
            for (int k = 0; k < crossingCount; k++) {
                if (stateAt(k) != GONE) {
                    crossings.put(OVER, kept, crossings.at(OVER, k));
                    crossings.put(UNDER, kept, crossings.at(UNDER, k));
                    crossings.put(STATE, kept, crossings.at(STATE, k));
                    kept++;
                }
            }
            crossingCount = kept;
        }

        // -- OPENINGS

        void drawFrom(int seed) {
            draw = seed;
        }

        /** One OPENING by the draws that come next: how many CROSSINGS came. */
        int openOnce() {
            openings++;
            int ready = unclippedSet();
            int came = 0;
            for (int lead = 0; lead < leadCount; lead++) {
                if ((ready >> lead & 1) == 1 && drawBy(16) < numbers.at(RISK, lead)) {
                    came += crossByDraw(lead, ready & ~(1 << lead));
                }
            }
            return came;
        }

        private int crossByDraw(int lead, int others) {
            int many = Integer.bitCount(others);
            if (many == 0) {
                return 0;
            }
            // The draw is made for a full row, too: the draws behind it stay what they are.
            int drawn = drawBy(many);
            if (isFull()) {
                return 0;
            }
            int other = memberAt(others, drawn);
            int slip = Math.min(LARGEST_END, numbers.at(STIFF, other) + 2);
            boolean threads = numbers.at(FIRST_END, lead) < slip || numbers.at(SECOND_END, lead) < slip;
            return addCrossing(lead, other, threads ? THREADED : LOOSE) ? 1 : 0;
        }

        private int drawBy(int n) {
            draw = (draw * 2897 + 10529) & 65535;
            return n > 0 ? (draw >> 3) % n : 0;
        }

        private static int memberAt(int set, int k) {
            int left = k;
            for (int lead = 0; lead < MOST_LEADS; lead++) {
                if ((set >> lead & 1) == 1) {
                    if (left == 0) {
                        return lead;
                    }
                    left--;
                }
            }
            return NONE;
        }
    }

    /** What HANGS TOGETHER in a DRAWER. */
    private static final class Lumps {
        private Lumps() {
        }

        /** The LUMP of a LEAD, if none but those of a set were there. */
        static int around(Drawer drawer, int lead, int among) {
            int lump = drawer.has(lead) ? 1 << lead & among : 0;
            int ahead = 0;
            for (int turn = 0; turn <= Drawer.MOST_LEADS && lump != ahead; turn++) {
                ahead = lump;
                for (int k = 0; k < drawer.crossingCount(); k++) {
                    int both = 1 << drawer.crossingAt(Drawer.OVER, k) | 1 << drawer.crossingAt(Drawer.UNDER, k);
                    boolean ties = drawer.stateAt(k) != Drawer.LOOSE && (both & ~among) == 0;
                    lump |= ties && (lump & both) != 0 ? both : 0;
                }
            }
            return lump;
        }

        static boolean isLone(Drawer drawer, int lead) {
            return Integer.bitCount(around(drawer, lead, drawer.insideSet())) == 1;
        }

        static int lone(Drawer drawer) {
            int set = 0;
            for (int lead = 0; lead < drawer.leadCount(); lead++) {
                set |= isLone(drawer, lead) ? 1 << lead : 0;
            }
            return set;
        }

        static int howMany(Drawer drawer) {
            int seen = 0;
            int count = 0;
            for (int lead = 0; lead < drawer.leadCount(); lead++) {
                int lump = around(drawer, lead, drawer.insideSet());
                count += (lump & seen) == 0 && Integer.bitCount(lump) > 1 ? 1 : 0;
                seen |= lump;
            }
            return count;
        }

        static int largest(Drawer drawer, int among) {
            int most = 0;
            for (int lead = 0; lead < drawer.leadCount(); lead++) {
                most = Math.max(most, Integer.bitCount(around(drawer, lead, among)));
            }
            return most;
        }

        /** The LEAD by whose CUT the largest LUMP becomes smallest. */
        static int bestCut(Drawer drawer) {
            int found = NONE;
            int fewest = Drawer.MOST_LEADS + 1;
            for (int lead = 0; lead < drawer.leadCount(); lead++) {
                if (drawer.isIn(lead)) {
                    int left = largest(drawer, drawer.insideSet() & ~(1 << lead));
                    if (left < fewest) {
                        fewest = left;
                        found = lead;
                    }
                }
            }
            return found;
        }
    }

    /** Reads a DRAWER from its text, up to the first fault along it. */
    private static final class DrawerText {
        private final Tokens tokens;

        DrawerText(Tokens tokens) {
            this.tokens = tokens;
        }

        boolean isGood(Drawer drawer) {
            drawer.clear();
            boolean good = true;
            for (int part = 0; part <= Tokens.MOST_BYTES && good && !tokens.atEnd(); part++) {
                good = tokens.wordIs(Tokens.LEAD) ? leadPart(drawer)
                    : tokens.wordIs(Tokens.CROSS) ? crossPart(drawer)
                    : tokens.wordIs(Tokens.LOOK) ? lookPart(drawer)
                    : tokens.fail(Tokens.CANNOT_STAND);
            }
            return good;
        }

        private boolean leadPart(Drawer drawer) {
            if (drawer.leadCount() >= Drawer.MOST_LEADS) {
                return tokens.fail(Tokens.TOO_MANY);
            }
            tokens.next();
            if (!newNameStands(drawer)) {
                return false;
            }
            int lead = drawer.addLead(tokens.name());
            tokens.next();
            return tokens.passWord(Tokens.LONG)
                && numberIs(NONE, drawer, lead, Drawer.LONG, 1, 30)
                && numberIs(Tokens.STIFF, drawer, lead, Drawer.STIFF, 0, 9)
                && perhapsEnds(drawer, lead)
                && numberIs(Tokens.COSTS, drawer, lead, Drawer.COSTS, 0, 999)
                && numberIs(Tokens.USED, drawer, lead, Drawer.USED, 0, 16)
                && perhapsClip(drawer, lead)
                && tokens.passSign(';');
        }

        /** A NUMBER of a LEAD; behind a word that may be left out with it, if there is one to look for. */
        private boolean numberIs(int word, Drawer drawer, int lead, int what, int least, int most) {
            if (word != NONE) {
                if (!tokens.wordIs(word)) {
                    return true;
                }
                tokens.next();
            }
            int v = tokens.passNumber(least, most);
            if (v == NONE) {
                return false;
            }
            drawer.setNumber(what, lead, v);
            return true;
        }

        private boolean perhapsEnds(Drawer drawer, int lead) {
            if (!tokens.wordIs(Tokens.ENDS)) {
                return true;
            }
            tokens.next();
            int first = tokens.passNumber(1, 9);
            int second = first == NONE ? NONE : tokens.passNumber(1, 9);
            drawer.setNumber(Drawer.FIRST_END, lead, first);
            drawer.setNumber(Drawer.SECOND_END, lead, second);
            return second != NONE;
        }

        private boolean perhapsClip(Drawer drawer, int lead) {
            if (tokens.wordIs(Tokens.CLIP)) {
                drawer.setClip(lead);
                tokens.next();
            }
            return true;
        }

        private boolean crossPart(Drawer drawer) {
            if (drawer.isFull()) {
                return tokens.fail(Tokens.TOO_MANY);
            }
            tokens.next();
            int over = crossable(drawer, NONE);
            if (over == NONE) {
                return false;
            }
            int under = crossable(drawer, over);
            if (under == NONE) {
                return false;
            }
            drawer.addCrossing(over, under, perhapsState());
            return tokens.passSign(';');
        }

        /** The LEAD whose NAME stands, behind the one that it crosses if there is one; NONE, and a fault. */
        private int crossable(Drawer drawer, int over) {
            if (!toldNameStands(drawer)) {
                return NONE;
            }
            int lead = drawer.leadNamed(tokens.name());
            if (lead == over || drawer.hasClip(lead)) {
                tokens.fail(Tokens.WRONG_LEAD);
                return NONE;
            }
            tokens.next();
            return lead;
        }

        private int perhapsState() {
            int state = tokens.wordIs(Tokens.THREADED) ? Drawer.THREADED
                : tokens.wordIs(Tokens.TIGHT) ? Drawer.TIGHT
                : tokens.wordIs(Tokens.KNOT) ? Drawer.KNOT : Drawer.LOOSE;
            if (state != Drawer.LOOSE) {
                tokens.next();
            }
            return state;
        }

        private boolean lookPart(Drawer drawer) {
            if (drawer.lookCount() >= Drawer.MOST_LOOKS) {
                return tokens.fail(Tokens.TOO_MANY);
            }
            tokens.next();
            if (!newNameStands(drawer)) {
                return false;
            }
            int look = drawer.addLook(tokens.name());
            tokens.next();
            boolean good = lookLead(drawer, look);
            for (int i = 0; i < Drawer.MOST_LEADS && good && !tokens.signIs(';'); i++) {
                good = lookLead(drawer, look);
            }
            return good && tokens.passSign(';');
        }

        private boolean lookLead(Drawer drawer, int look) {
            if (!toldNameStands(drawer)) {
                return false;
            }
            int lead = drawer.leadNamed(tokens.name());
            if ((drawer.lookSet(look) >> lead & 1) == 1) {
                return tokens.fail(Tokens.WRONG_LEAD);
            }
            drawer.addToLook(look, lead);
            tokens.next();
            return true;
        }

        private boolean newNameStands(Drawer drawer) {
            return !tokens.nameStands() ? tokens.fail(Tokens.CANNOT_STAND)
                : drawer.isTaken(tokens.name()) ? tokens.fail(Tokens.WRONG_NAME) : true;
        }

        private boolean toldNameStands(Drawer drawer) {
            return !tokens.nameStands() ? tokens.fail(Tokens.CANNOT_STAND)
                : drawer.leadNamed(tokens.name()) == NONE ? tokens.fail(Tokens.WRONG_NAME) : true;
        }
    }

    /** YEARS as lines of a program: a line for each STEP and for each end. */
    private static final class Years {
        static final int MOST_STEPS = 30;
        static final int MOST_LINES = 60;

        private static final int WORD = 0;
        private static final int NUMBER = 1;
        private static final int COMPARES = 2;
        private static final int PARTNER = 3;

        private final Table lines = new Table(4, MOST_LINES);
        private boolean there;
        private int lineCount;
        private int stepCount;

        void clear() {
            there = false;
            lineCount = 0;
            stepCount = 0;
        }

        void takeOver(Years from) {
            if (from == null) {
                return;
            }
            lines.takeOver(from.lines);
            there = from.there;
            lineCount = from.lineCount;
            stepCount = from.stepCount;
        }

        boolean isThere() {
            return there;
        }

        void setThere() {
            there = true;
        }

        int lineCount() {
            return lineCount;
        }

        int stepCount() {
            return stepCount;
        }

        boolean isFull() {
            return stepCount >= MOST_STEPS;
        }

        /** Adds a STEP; a when bears the word of its TEST. */
        void addStep(int word, int number, int compares) {
            lines.put(WORD, lineCount, word);
            lines.put(NUMBER, lineCount, number);
            lines.put(COMPARES, lineCount, compares);
            lines.put(PARTNER, lineCount, NONE);
            lineCount++;
            stepCount++;
        }

        /** Adds the end of the when or loop in a line. */
        void addEnd(int opener) {
            lines.put(WORD, lineCount, Tokens.END);
            lines.put(PARTNER, lineCount, opener);
            lines.put(PARTNER, opener, lineCount);
            lineCount++;
        }

        int wordAt(int line) {
            return lines.at(WORD, line);
        }

        int numberAt(int line) {
            return lines.at(NUMBER, line);
        }

        int comparesAt(int line) {
            return lines.at(COMPARES, line);
        }

        /** The end of a when or loop, the when or loop of an end. */
        int partnerOf(int line) {
            return lines.at(PARTNER, line);
        }
    }

    /** Reads YEARS from their text, up to the first fault along it. */
    private static final class YearsText {
        private static final int MOST_DEPTH = 3;

        private final Tokens tokens;
        private final Table openers = new Table(1, MOST_DEPTH);
        private int depth;

        YearsText(Tokens tokens) {
            this.tokens = tokens;
        }

        boolean isGood(Drawer drawer, Years years) {
            years.clear();
            years.setThere();
            depth = 0;
            boolean good = true;
            for (int line = 0; line <= Tokens.MOST_BYTES && good && !tokens.atEnd(); line++) {
                good = tokens.wordIs(Tokens.END) ? endLine(years) : stepLine(drawer, years);
            }
            return good && (depth == 0 || tokens.fail(Tokens.CANNOT_STAND));
        }

        private boolean endLine(Years years) {
            if (depth == 0) {
                return tokens.fail(Tokens.CANNOT_STAND);
            }
            tokens.next();
            depth--;
            years.addEnd(openers.at(0, depth));
            return tokens.passSign(';');
        }

        private boolean stepLine(Drawer drawer, Years years) {
            int word = tokens.word();
            boolean opens = word == Tokens.WHEN || word == Tokens.LOOP;
            if (!opens && !isPlainStep(word)) {
                return tokens.fail(Tokens.CANNOT_STAND);
            }
            if (years.isFull()) {
                return tokens.fail(Tokens.TOO_MANY);
            }
            if (opens && depth >= MOST_DEPTH) {
                return tokens.fail(Tokens.TOO_DEEP);
            }
            tokens.next();
            if (opens) {
                openers.put(0, depth, years.lineCount());
                depth++;
            }
            return (word == Tokens.WHEN ? testStep(drawer, years) : wholeStep(word, drawer, years))
                && tokens.passSign(';');
        }

        private static boolean isPlainStep(int word) {
            return word == Tokens.OPEN || word == Tokens.LOOSEN || word == Tokens.STOP || namesLead(word);
        }

        private static boolean namesLead(int word) {
            return word == Tokens.TAKE || word == Tokens.PULL || word == Tokens.CUT || word == Tokens.CLIP;
        }

        private boolean wholeStep(int word, Drawer drawer, Years years) {
            boolean counts = word == Tokens.OPEN || word == Tokens.LOOP;
            int number = counts ? tokens.passNumber(1, 99) : namesLead(word) ? passLead(drawer) : 0;
            years.addStep(word, number, 0);
            return number != NONE;
        }

        private boolean testStep(Drawer drawer, Years years) {
            int test = tokens.word();
            if (test != Tokens.LUMP && test != Tokens.CROSS && test != Tokens.FREE) {
                return tokens.fail(Tokens.CANNOT_STAND);
            }
            tokens.next();
            int compares = 0;
            if (test != Tokens.FREE) {
                compares = tokens.signIs('<') ? '<' : tokens.signIs('>') ? '>' : '=';
                if (!tokens.passSign(compares)) {
                    return false;
                }
            }
            int number = test == Tokens.FREE ? passLead(drawer)
                : tokens.passNumber(0, test == Tokens.LUMP ? Drawer.MOST_LEADS : Drawer.MOST_CROSSINGS);
            years.addStep(test, number, compares);
            return number != NONE;
        }

        /** The LEAD whose NAME stands, and on to the next TOKEN; NONE, and a fault, if it can't be. */
        private int passLead(Drawer drawer) {
            if (!tokens.nameStands()) {
                tokens.fail(Tokens.CANNOT_STAND);
                return NONE;
            }
            int lead = drawer.leadNamed(tokens.name());
            if (lead == NONE) {
                tokens.fail(Tokens.WRONG_NAME);
                return NONE;
            }
            tokens.next();
            return lead;
        }
    }

    /** Finds the ways by which one LEAD, or all, are free soonest, and keeps those that were told. */
    private static final class Ways {
        private static final int MOST_LOOSENED = 3;
        private static final int PULL_SECONDS = 2;
        private static final int FAR = 1 << 30;

        private static final int SECONDS = 0;
        private static final int STATE = 1;

        private final Table row = new Table(2, Drawer.MOST_CROSSINGS);
        private int rowLength;
        private int fromFirst;
        private int fromSecond;

        private final Table way = new Table(1, 4);
        private final Table toldWay = new Table(1, 4);
        private boolean wayKept;

        private final Table rest = new Table(1, 1 << Drawer.MOST_LEADS);
        private final Table order = new Table(1, Drawer.MOST_LEADS);
        private int orderLength;
        private int loosensFirst;
        private boolean orderKept;

        /** ALONE: its SECONDS; the way stands in wayAt() then. */
        int find(Drawer drawer, int lead) {
            int least = FAR;
            for (int often = 0; often <= MOST_LOOSENED; often++) {
                layRow(drawer, lead, 0, often);
                int spent = drawer.secondsToLoosen(often) + fewestSeconds();
                if (spent < least) {
                    least = spent;
                    way.put(0, 0, often);
                    way.put(0, 1, fromFirst);
                    way.put(0, 2, fromSecond);
                    way.put(0, 3, fromFirst + fromSecond < rowLength ? 1 : 0);
                }
            }
            return least;
        }

        int wayAt(int what) {
            return way.at(0, what);
        }

        void keepWay() {
            toldWay.takeOver(way);
            wayKept = true;
        }

        boolean hasWay() {
            return wayKept;
        }

        int keptWay(int what) {
            return toldWay.at(0, what);
        }

        int soonestOf(Drawer drawer) {
            int found = NONE;
            int least = FAR;
            for (int lead = 0; lead < drawer.leadCount(); lead++) {
                if (drawer.isIn(lead)) {
                    int spent = find(drawer, lead);
                    if (spent < least) {
                        least = spent;
                        found = lead;
                    }
                }
            }
            return found;
        }

        int secondsOfEnds(Drawer drawer, int lead, int i, int j) {
            layRow(drawer, lead, 0, 0);
            int spent = 0;
            for (int n = 0; n < i; n++) {
                spent += row.at(SECONDS, n);
            }
            for (int n = 0; n < j; n++) {
                spent += row.at(SECONDS, rowLength - 1 - n);
            }
            return spent;
        }

        /** ALL: its SECONDS; the order and how often is LOOSENED are kept. */
        int findAll(Drawer drawer) {
            int least = FAR;
            int best = 0;
            for (int often = 0; often <= MOST_LOOSENED; often++) {
                int ahead = drawer.secondsToLoosen(often);
                int spent = ahead < least ? ahead + layRest(drawer, often) : FAR;
                if (spent < least) {
                    least = spent;
                    best = often;
                }
            }
            loosensFirst = best;
            orderKept = true;
            layRest(drawer, best);
            layOrder(drawer);
            return least;
        }

        boolean hasOrder() {
            return orderKept;
        }

        int orderLength() {
            return orderLength;
        }

        int inOrder(int k) {
            return order.at(0, k);
        }

        int loosensFirst() {
            return loosensFirst;
        }

        /** For each set of LEADS that are free already, the fewest SECONDS for the rest of them. */
        private int layRest(Drawer drawer, int loosened) {
            int everyone = everyone(drawer);
            int out = everyone & ~drawer.insideSet();
            for (int done = everyone; done >= out; done--) {
                if ((done & out) == out) {
                    rest.put(0, done, done == everyone ? 0 : fewestForRest(drawer, done, loosened));
                }
            }
            return rest.at(0, out);
        }

        private int fewestForRest(Drawer drawer, int done, int loosened) {
            int least = FAR;
            for (int lead = 0; lead < drawer.leadCount(); lead++) {
                if ((done >> lead & 1) == 0) {
                    least = Math.min(least, secondsWithNext(drawer, lead, done, loosened));
                }
            }
            return least;
        }

        private int secondsWithNext(Drawer drawer, int lead, int done, int loosened) {
            layRow(drawer, lead, done, loosened);
            return fewestSeconds() + rest.at(0, done | 1 << lead);
        }

        private void layOrder(Drawer drawer) {
            orderLength = 0;
            int done = everyone(drawer) & ~drawer.insideSet();
            for (int turn = 0; turn < drawer.leadCount(); turn++) {
                int next = firstOfBest(drawer, done);
                if (next != NONE) {
                    order.put(0, orderLength, next);
                    orderLength++;
                    done |= 1 << next;
                }
            }
        }

        private int firstOfBest(Drawer drawer, int done) {
            for (int lead = 0; lead < drawer.leadCount(); lead++) {
                if ((done >> lead & 1) == 0
                        && secondsWithNext(drawer, lead, done, loosensFirst) == rest.at(0, done)) {
                    return lead;
                }
            }
            return NONE;
        }

        /** Lays the CROSSINGS of a LEAD from its END 0, without those of LEADS that are done. */
        private void layRow(Drawer drawer, int lead, int done, int loosened) {
            rowLength = 0;
            for (int k = 0; k < drawer.crossingCount(); k++) {
                int other = drawer.otherAt(k, lead);
                if (other != NONE && (done >> other & 1) == 0) {
                    int state = drawer.stateAfter(k, loosened);
                    if (state > Drawer.GONE) {
                        row.put(SECONDS, rowLength, drawer.secondsToUndo(state, other));
                        row.put(STATE, rowLength, state);
                        rowLength++;
                    }
                }
            }
        }

        /** The fewest SECONDS for the row that is laid, and from which END how often. */
        private int fewestSeconds() {
            int least = FAR;
            int first = 0;
            for (int i = 0; i <= rowLength; i++) {
                int tied = firstTied(i);
                int spent = first;
                for (int j = 0; i + j <= rowLength; j++) {
                    int left = rowLength - j;
                    int whole = spent + (left > i ? PULL_SECONDS : 0);
                    if (left <= tied && whole < least) {
                        least = whole;
                        fromFirst = i;
                        fromSecond = j;
                    }
                    spent += row.at(SECONDS, left - 1);
                }
                first += row.at(SECONDS, i);
            }
            return least;
        }

        /** The first place from i on that is not LOOSE, or the row's length. */
        private int firstTied(int i) {
            for (int n = i; n < rowLength; n++) {
                if (row.at(STATE, n) != Drawer.LOOSE) {
                    return n;
                }
            }
            return rowLength;
        }

        private static int everyone(Drawer drawer) {
            return (1 << drawer.leadCount()) - 1;
        }
    }

    /** What clips, tries, boxes and new LEADS are worth. */
    private static final class Worth {
        private static final int MOST_OPENINGS = 999;
        private static final int FAR = 1 << 30;

        private final Table filled = new Table(1, 1 << Drawer.MOST_LEADS);

        int sixteenthsGrown(Drawer drawer) {
            int ready = drawer.unclippedSet();
            int risks = 0;
            for (int lead = 0; lead < drawer.leadCount(); lead++) {
                risks += (ready >> lead & 1) == 1 ? drawer.number(Drawer.RISK, lead) : 0;
            }
            return Integer.bitCount(ready) > 1 ? risks : 0;
        }

        /** WORTH of CLIPS, NONE if never. */
        int openingsForClips(Drawer drawer) {
            int grown = sixteenthsGrown(drawer) * 5;
            int dear = Integer.bitCount(drawer.unclippedSet()) * 12 * 16;
            for (int openings = 1; openings <= MOST_OPENINGS; openings++) {
                if (openings * grown > dear) {
                    return openings;
                }
            }
            return NONE;
        }

        int usedTogether(Drawer drawer, int set) {
            int used = 0;
            for (int lead = 0; lead < drawer.leadCount(); lead++) {
                used += (set >> lead & 1) == 1 ? drawer.number(Drawer.USED, lead) : 0;
            }
            return used;
        }

        int triesTogether(Drawer drawer, int set) {
            int tries = 0;
            for (int lead = 0; lead < drawer.leadCount(); lead++) {
                if ((set >> lead & 1) == 1) {
                    tries += drawer.number(Drawer.USED, lead) * (triedAhead(drawer, set, lead) + 1);
                }
            }
            return tries;
        }

        int triedAt(Drawer drawer, int set, int k) {
            for (int lead = 0; lead < drawer.leadCount(); lead++) {
                if ((set >> lead & 1) == 1 && triedAhead(drawer, set, lead) == k) {
                    return lead;
                }
            }
            return NONE;
        }

        private static int triedAhead(Drawer drawer, int set, int lead) {
            int used = drawer.number(Drawer.USED, lead);
            int ahead = 0;
            for (int other = 0; other < drawer.leadCount(); other++) {
                int otherUsed = drawer.number(Drawer.USED, other);
                boolean first = otherUsed > used || otherUsed == used && other < lead;
                ahead += first && (set >> other & 1) == 1 ? 1 : 0;
            }
            return ahead;
        }

        int longest(Drawer drawer) {
            int most = 0;
            for (int lead = 0; lead < drawer.leadCount(); lead++) {
                most = Math.max(most, drawer.isIn(lead) ? drawer.number(Drawer.LONG, lead) : 0);
            }
            return most;
        }

        /** For each set the fewest BOXES, and of these the least in the last one: BOXES by 128, and that. */
        int fewestBoxes(Drawer drawer, int room) {
            int inside = drawer.insideSet();
            filled.put(0, 0, room);
            for (int set = 1; set <= inside; set++) {
                if ((set & ~inside) == 0) {
                    filled.put(0, set, leastFilled(drawer, set, room));
                }
            }
            return filled.at(0, inside) >> 7;
        }

        private int leastFilled(Drawer drawer, int set, int room) {
            int least = FAR;
            for (int lead = 0; lead < drawer.leadCount(); lead++) {
                if ((set >> lead & 1) == 1) {
                    int ahead = filled.at(0, set & ~(1 << lead));
                    int more = drawer.number(Drawer.LONG, lead);
                    boolean fits = (ahead & 127) + more <= room;
                    least = Math.min(least, fits ? ahead + more : ((ahead >> 7) + 1 << 7) + more);
                }
            }
            return least;
        }

        int thrown(Drawer drawer, int pence) {
            int set = 0;
            for (int lead = 0; lead < drawer.leadCount(); lead++) {
                int worth = drawer.number(Drawer.COSTS, lead) * drawer.number(Drawer.USED, lead);
                boolean goes = drawer.isIn(lead) && worth < 16 * pence * drawer.countOn(lead);
                set |= goes ? 1 << lead : 0;
            }
            return set;
        }
    }

    /** Lives through YEARS, and keeps what live() told latest. */
    private static final class Life {
        private static final int MOST_DONE = 300;
        // Far above what 300 STEPS with loops of 99 turns can need.
        private static final int MOST_TURNS = 1000000;

        private static final int MISSED = 0;
        private static final int OPENINGS = 1;
        private static final int CAME = 2;
        private static final int TAKEN = 3;
        private static final int LEFT = 4;

        private final Ways ways;
        private final Table counts = new Table(1, 5);
        private final Table toldCounts = new Table(1, 5);
        private final Table turnsLeft = new Table(1, Years.MOST_LINES);
        private boolean countsKept;

        Life(Ways ways) {
            this.ways = ways;
        }

        void keepCounts() {
            toldCounts.takeOver(counts);
            countsKept = true;
        }

        boolean hasCounts() {
            return countsKept;
        }

        int keptCount(int what) {
            return toldCounts.at(0, what);
        }

        /** Lives by a seed: how many STEPS were come to. */
        int run(Drawer drawer, int seed) {
            for (int what = MISSED; what <= LEFT; what++) {
                counts.put(0, what, 0);
            }
            drawer.drawFrom(seed);
            Years years = drawer.years;
            int done = 0;
            int line = 0;
            for (int turn = 0; turn < MOST_TURNS && line < years.lineCount(); turn++) {
                int word = years.wordAt(line);
                if (word == Tokens.END) {
                    line = behindEnd(years, line);
                } else if (done == MOST_DONE) {
                    add(LEFT, 1);
                    return done;
                } else {
                    done++;
                    if (word == Tokens.STOP) {
                        return done;
                    }
                    line = behindStep(drawer, line);
                }
            }
            return done;
        }

        private int behindEnd(Years years, int line) {
            int opener = years.partnerOf(line);
            int left = turnsLeft.at(0, opener) - 1;
            if (years.wordAt(opener) != Tokens.LOOP || left <= 0) {
                return line + 1;
            }
            turnsLeft.put(0, opener, left);
            return opener + 1;
        }

        private int behindStep(Drawer drawer, int line) {
            Years years = drawer.years;
            int word = years.wordAt(line);
            int number = years.numberAt(line);
            if (word == Tokens.LUMP || word == Tokens.CROSS || word == Tokens.FREE) {
                return holds(drawer, line) ? line + 1 : years.partnerOf(line) + 1;
            }
            if (word == Tokens.LOOP) {
                turnsLeft.put(0, line, number);
            } else if (word == Tokens.OPEN) {
                openOften(drawer, number);
            } else if (word == Tokens.LOOSEN) {
                drawer.loosenOnce();
            } else if (!drawer.isIn(number) || word == Tokens.CLIP && !drawer.canGetClip(number)) {
                add(MISSED, 1);
            } else if (word == Tokens.TAKE) {
                takeOut(drawer, number);
            } else if (word == Tokens.PULL) {
                drawer.pullAt(number, Lumps.isLone(drawer, number));
            } else if (word == Tokens.CUT) {
                drawer.cutOff(number);
            } else {
                drawer.putClip(number);
            }
            return line + 1;
        }

        private static boolean holds(Drawer drawer, int line) {
            int word = drawer.years.wordAt(line);
            int number = drawer.years.numberAt(line);
            if (word == Tokens.FREE) {
                return drawer.isFree(number);
            }
            int v = word == Tokens.CROSS ? drawer.crossingCount() : Lumps.largest(drawer, drawer.insideSet());
            int compares = drawer.years.comparesAt(line);
            return compares == '<' ? v < number : compares == '>' ? v > number : v == number;
        }

        private void openOften(Drawer drawer, int often) {
            for (int n = 0; n < often; n++) {
                add(CAME, drawer.openOnce());
            }
            add(OPENINGS, often);
        }

        /** Gets a LEAD free as ALONE tells. */
        private void takeOut(Drawer drawer, int lead) {
            add(TAKEN, 1);
            ways.find(drawer, lead);
            for (int n = 0; n < ways.wayAt(0); n++) {
                drawer.loosenOnce();
            }
            for (int n = 0; n < ways.wayAt(1); n++) {
                drawer.undoNearest(lead, 0);
            }
            for (int n = 0; n < ways.wayAt(2); n++) {
                drawer.undoNearest(lead, 1);
            }
            if (ways.wayAt(3) == 1) {
                drawer.pullAt(lead, true);
            }
        }

        private void add(int what, int more) {
            counts.put(0, what, counts.at(0, what) + more);
        }
    }
}
