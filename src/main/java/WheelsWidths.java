/** A road by yards with ruts of three widths, and the carts on it; README.md tells how to use it. */
public final class WheelsWidths {
    public static final int BAD = -1, STATE = -2, FULL = -3, NONE = -4;

    private static final int WIDTHS = 3;
    private static final int YARDS = 21;
    private static final int FIRST_LAST = 10;
    private static final int RUTS = YARDS * WIDTHS;
    private static final int DEEPEST = 99;
    private static final int HOURS = 60;
    private static final int CARTS = 5;
    private static final int ALL_PEOPLES = 7;
    private static final int COST_MOST = 60;
    private static final int TRACKS = 8;
    private static final int TAPE = 400;
    private static final int FAULT_BASE = -10;

    private static final int PLAIN = 0;
    private static final int DOUBLE = 1;
    private static final int SLEDGE = 2;
    private static final int HIRED = 3;
    private static final int SMUGGLER = 4;

    /** The parts of a cart, in the order in which a line of the text tells them. */
    private static final int KIND = 0;
    private static final int WIDTH = 1;
    private static final int LOAD = 2;
    private static final int AXLE = 3;
    private static final int YARD = 4;
    private static final int GOAL = 5;
    private static final int START = 6;
    private static final int PARTS = 7;
    private static final int[] PART_LEAST = {0, 0, 1, 0, 0, 0, 0};
    private static final int[] PART_MOST = {4, 2, 9, 30, 20, 20, 20};

    private final Road road = new Road();
    private final Road firstImage = new Road();
    private final Road secondImage = new Road();
    private final Reader reader = new Reader();
    private final Run run = new Run(road);
    private final Order byNumber = new Order();
    private final Plans plans = new Plans(road, run);
    private final Ways ways = new Ways(road);
    private final Fitting fitting = new Fitting(road);
    private final Sheets sheets = new Sheets();
    /** Bits of the images that there are. */
    private int images = 0;

    public WheelsWidths() {
    }

    // ---- the text

    public int feed(long v) {
        return reader.length + 8 > TAPE ? FULL : reader.append(v);
    }

    public int end(int n) {
        if (n < 0 || n > reader.length) return BAD;
        int had = reader.length;
        reader.length = n;
        return had;
    }

    public int text() {
        int lines = reader.takeText();
        reader.length = 0;
        if (lines < 0) return FAULT_BASE - reader.place;
        road.copyFrom(reader.told);
        images = 0;
        plans.drop();
        return lines;
    }

    public int fault() {
        return reader.fault;
    }

    public int yard(int y, int what) {
        if (!road.hasYard(y)) return BAD;
        if (what == 0) return road.widthsAt(y);
        if (what == 1) return road.isBog(y) ? 1 : 0;
        if (what == 2) return road.smithAt(y);
        if (isWidth(what - 10)) return road.hasRut(y, what - 10) ? at(road.depth, rut(y, what - 10)) : NONE;
        return isWidth(what - 20) ? at(road.toll, rut(y, what - 20)) : BAD;
    }

    public int cart(int c, int what) {
        return road.hasCart(c) && what >= KIND && what <= START ? road.part(c, what) : BAD;
    }

    public int frost(int h) {
        if (!isHour(h)) return BAD;
        return road.isFrost(h) ? 1 : 0;
    }

    // ---- what is changed

    public int dig(int y, int w, int depth) {
        if (!road.hasYard(y) || !isWidth(w) || depth < 0 || depth > DEEPEST) return BAD;
        if (!road.hasRut(y, w)) return STATE;
        plans.drop();
        return swap(road.depth, rut(y, w), depth);
    }

    public int fill(int y) {
        if (!road.hasYard(y)) return BAD;
        plans.drop();
        int deepest = 0;
        for (int w = 0; w < WIDTHS; w++) {
            deepest = Math.max(deepest, swap(road.depth, rut(y, w), 0));
        }
        return deepest;
    }

    public int shoe(int c, int w) {
        if (!road.hasCart(c) || !isWidth(w)) return BAD;
        if (road.part(c, KIND) == HIRED) return STATE;
        plans.drop();
        return road.swapPart(c, WIDTH, w);
    }

    public int load(int c, int v) {
        if (!road.hasCart(c) || v < at(PART_LEAST, LOAD) || v > at(PART_MOST, LOAD)) return BAD;
        plans.drop();
        return road.swapPart(c, LOAD, v);
    }

    public int freeze(int h, boolean is) {
        if (!isHour(h)) return BAD;
        int was = road.isFrost(h) ? 1 : 0;
        road.setFrost(h, is);
        plans.drop();
        return was;
    }

    // ---- a run

    public int where(int c, int h) {
        if (!road.hasCart(c) || !isBehind(h)) return BAD;
        runUpTo(h);
        return at(run.yards, c);
    }

    public int depth(int y, int w, int h) {
        if (!road.hasYard(y) || !isWidth(w) || !isBehind(h)) return BAD;
        if (!road.hasRut(y, w)) return NONE;
        runUpTo(h);
        return run.depthOf(rut(y, w));
    }

    public int paid(int c, int h) {
        if (!road.hasCart(c) || !isBehind(h)) return BAD;
        runUpTo(h);
        return at(run.tolls, c);
    }

    public int waited(int c, int h) {
        if (!road.hasCart(c) || !isBehind(h)) return BAD;
        runUpTo(h);
        return at(run.waits, c);
    }

    public int done(int c) {
        if (!road.hasCart(c)) return BAD;
        runUpTo(HOURS);
        return run.isDone(c) ? at(run.doneIn, c) : NONE;
    }

    public int jam(int h) {
        if (!isHour(h)) return BAD;
        runUpTo(h);
        return run.waiting;
    }

    public int deepest(int h, int what) {
        if (!isBehind(h) || what < 0 || what > 1) return BAD;
        runUpTo(h);
        int most = NONE;
        int place = NONE;
        for (int r = 0; r < RUTS; r++) {
            if (road.hasRut(r / WIDTHS, r % WIDTHS) && run.depthOf(r) > most) {
                most = run.depthOf(r);
                place = r;
            }
        }
        return what == 0 ? most : place;
    }

    public int go(int h) {
        if (!isBehind(h)) return BAD;
        runUpTo(h);
        for (int r = 0; r < RUTS; r++) put(road.depth, r, run.depthOf(r));
        int left = 0;
        for (int c = 0; c < road.carts; c++) {
            if (!run.isDone(c)) {
                road.moveCart(c, left);
                road.swapPart(left, YARD, at(run.yards, c));
                road.swapPart(left, START, 0);
                left++;
            }
        }
        road.carts = left;
        plans.drop();
        return left;
    }

    private void runUpTo(int h) {
        byNumber.begin(road.carts);
        run.begin(byNumber);
        run.upTo(h);
    }

    // ---- orders, mending

    public int order(int what) {
        if (what != 0 && !road.hasCart(less(what, 10))) return BAD;
        if (road.carts == 0) return STATE;
        plans.findOrder();
        if (plans.sum == NONE) return NONE;
        return what == 0 ? plans.sum : at(plans.order.carts, what - 10);
    }

    public int mend(int what) {
        if (what < 0 || what > 2) return BAD;
        plans.findMending();
        if (what == 0 || plans.mended == NONE) return plans.mended;
        if (what > plans.mended) return NONE;
        return what == 1 ? plans.mendFirst : plans.mendSecond;
    }

    // ---- ways

    public int way(int c, int by, int what) {
        boolean asked = what >= 0 && what <= 2 || what >= 10;
        if (!road.hasCart(c) || by < 0 || by > 1 || !asked) return BAD;
        ways.find(c, by);
        if (!ways.isFound()) return NONE;
        if (what == 0) return ways.money();
        if (what == 1) return ways.hours();
        return what == 2 ? ways.acts() : ways.actAt(what - 10);
    }

    public int can(int c) {
        return road.hasCart(c) ? ways.reached(c) : BAD;
    }

    // ---- treaties

    public int cost(int some) {
        return isPeoples(some) ? at(road.cost, some) : BAD;
    }

    public int price(int some, int v) {
        return isPeoples(some) && isShare(v) ? swap(road.cost, some, v) : BAD;
    }

    public int firm(int a, int b, int c) {
        if (!isShare(a) || !isShare(b) || !isShare(c)) return BAD;
        return road.isFirm(a, b, c) ? 1 : 0;
    }

    public int shares(int what) {
        if (what < 0 || what > 1) return BAD;
        int all = at(road.cost, ALL_PEOPLES);
        int many = 0;
        int first = NONE;
        for (int a = 0; a <= all; a++) {
            for (int b = 0; b <= all - a; b++) {
                if (road.isFirm(a, b, all - a - b)) {
                    if (many == 0) first = 10000 * a + 100 * b + all - a - b;
                    many++;
                }
            }
        }
        return what == 0 ? many : first;
    }

    // ---- tracks

    public int track(int y, int w) {
        int refused = road.refusesTrack(y, w, road.tracks);
        return refused != 0 ? refused : road.addTrack(y, w);
    }

    public int forget(int n) {
        if (n < 0 || n > road.tracks) return BAD;
        int were = road.tracks;
        road.tracks = n;
        return were;
    }

    public int orders(int what) {
        if (what != 0 && !road.hasCart(less(what, 10))) return BAD;
        fitting.find(0);
        if (what == 0) return fitting.many;
        return fitting.many == 0 ? NONE : at(fitting.first, what - 10);
    }

    public int whose(int y) {
        if (!road.hasYard(y)) return BAD;
        fitting.find(y);
        return fitting.lastOnes;
    }

    // ---- images, sheets

    public int keep(int k) {
        if (!isImage(k)) return BAD;
        int was = images >> k & 1;
        image(k).copyFrom(road);
        images |= 1 << k;
        return was;
    }

    public int back(int k) {
        if (!isImage(k)) return BAD;
        if ((images >> k & 1) == 0) return STATE;
        road.copyFrom(image(k));
        plans.drop();
        return road.carts;
    }

    public int sheet(int k, int lane, int n) {
        if (!Sheets.isSheet(k) || !Sheets.isLane(lane) || n > Sheets.CELLS) return BAD;
        if (n < 0) return FAULT_BASE - Sheets.SIZE;
        sheets.make(k, lane, n);
        return 1;
    }

    public int lay(int k, int i, int v) {
        if (!Sheets.isSheet(k)) return BAD;
        int met = sheets.faultOf(k, i);
        if (met != 0) return FAULT_BASE - met;
        sheets.set(k, i, v);
        return 1;
    }

    public int read(int k, int lane, int f, int n) {
        if (!Sheets.isSheet(k) || !Sheets.isLane(lane) || n < 0 || n > TRACKS) return BAD;
        int whole = n == 0 ? 0 : sheets.wholePairs(k, lane, f, n);
        for (int i = 0; i < whole; i++) {
            int y = sheets.cell(k, f + 2 * i);
            int w = sheets.cell(k, f + 2 * i + 1);
            if (road.refusesTrack(y, w, road.tracks + i) != 0) return -20 - i;
        }
        sheets.torn = n == 0 ? 0 : sheets.faultOfPairs(k, lane, whole, n);
        for (int i = 0; i < whole; i++) {
            road.addTrack(sheets.cell(k, f + 2 * i), sheets.cell(k, f + 2 * i + 1));
        }
        return whole;
    }

    public int torn() {
        return sheets.torn;
    }

    public int count(int what) {
        switch (what) {
            case 0: return road.last;
            case 1: return road.carts;
            case 2: return road.tracks;
            case 3: return Integer.bitCount(images);
            case 4: return reader.length;
            case 5: return sheets.cellsOf(0);
            default: return BAD;
        }
    }

    private Road image(int k) {
        return k == 0 ? firstImage : secondImage;
    }

    private static boolean isImage(int k) {
        return k == 0 || k == 1;
    }

    private static boolean isWidth(int w) {
        return w >= 0 && w < WIDTHS;
    }

    private static boolean isHour(int h) {
        return h >= 1 && h <= HOURS;
    }

    /** Whether the road can be asked about behind that hour; behind hour 0 is ahead of the first one. */
    private static boolean isBehind(int h) {
        return h >= 0 && h <= HOURS;
    }

    private static boolean isPeoples(int some) {
        return some >= 1 && some <= ALL_PEOPLES;
    }

    private static boolean isShare(int v) {
        return v >= 0 && v <= COST_MOST;
    }

    /** what less base; -1 where what is below base, so that no difference wraps round. */
    private static int less(int what, int base) {
        return what < base ? -1 : what - base;
    }

    /** The place of a rut in the rows that have one cell for each rut. */
    private static int rut(int y, int w) {
        return y * WIDTHS + w;
    }

    private static int at(int[] row, int i) {
        return i >= 0 && i < row.length ? row[i] : 0;
    }

    private static void put(int[] row, int i, int v) {
        if (i >= 0 && i < row.length) row[i] = v;
    }

    /** Puts v in a row; what was there. */
    private static int swap(int[] row, int i, int v) {
        int was = at(row, i);
        put(row, i, v);
        return was;
    }

    private static void copy(int[] from, int[] to) {
        for (int i = 0; i < to.length && i < from.length; i++) to[i] = from[i];
    }

    private static void wipe(int[] row, int v) {
        for (int i = 0; i < row.length; i++) row[i] = v;
    }

    /** All that a text tells, and the tracks. */
    static final class Road {
        private final int[] hill = new int[YARDS];
        private final int[] smith = new int[YARDS];
        final int[] toll = new int[RUTS];
        final int[] depth = new int[RUTS];
        private final int[] parts = new int[CARTS * PARTS];
        final int[] cost = new int[ALL_PEOPLES + 1];
        private final int[] track = new int[TRACKS];
        private int bogs;
        private long frosts;
        int last;
        int carts;
        int tracks;

        Road() {
            reset();
        }

        private void reset() {
            wipe(hill, NONE);
            wipe(smith, NONE);
            wipe(toll, 0);
            wipe(depth, 0);
            wipe(cost, 0);
            bogs = 0;
            frosts = 0;
            last = FIRST_LAST;
            carts = 0;
            tracks = 0;
        }

        private void copyFrom(Road other) {
            copy(other.hill, hill);
            copy(other.smith, smith);
            copy(other.toll, toll);
            copy(other.depth, depth);
            copy(other.parts, parts);
            copy(other.cost, cost);
            copy(other.track, track);
            bogs = other.bogs;
            frosts = other.frosts;
            last = other.last;
            carts = other.carts;
            tracks = other.tracks;
        }

        private boolean hasYard(int y) {
            return y >= 0 && y <= last;
        }

        private boolean isBog(int y) {
            return (bogs >> y & 1) != 0;
        }

        private void setBog(int y) {
            bogs |= 1 << y;
        }

        /** The width of a hill's one rut, or NONE where there is no hill. */
        private int hillAt(int y) {
            return y >= 0 && y < hill.length ? hill[y] : NONE;
        }

        private void setHill(int y, int w) {
            put(hill, y, w);
        }

        /** A smith's price, or NONE where there is no smith. */
        private int smithAt(int y) {
            return y >= 0 && y < smith.length ? smith[y] : NONE;
        }

        private void setSmith(int y, int v) {
            put(smith, y, v);
        }

        private boolean hasRut(int y, int w) {
            return hasYard(y) && isWidth(w) && (hillAt(y) == NONE || hillAt(y) == w);
        }

        private int widthsAt(int y) {
            int bits = 0;
            for (int w = 0; w < WIDTHS; w++) {
                if (hasRut(y, w)) bits |= 1 << w;
            }
            return bits;
        }

        private boolean isFrost(int h) {
            return (frosts >> h & 1L) != 0;
        }

        private boolean hasFrostFrom(int h) {
            return frosts >> h != 0;
        }

        private void setFrost(int h, boolean is) {
            frosts = is ? frosts | 1L << h : frosts & ~(1L << h);
        }

        private boolean hasCart(int c) {
            return c >= 0 && c < carts;
        }

        private int part(int c, int what) {
            int i = c * PARTS + what;
            return i >= 0 && i < parts.length ? parts[i] : 0;
        }

        private int swapPart(int c, int what, int v) {
            return swap(parts, c * PARTS + what, v);
        }

        private void moveCart(int from, int to) {
            for (int what = 0; what < PARTS; what++) swapPart(to, what, part(from, what));
        }

        /** The yard behind y as a cart goes to its goal. */
        private int nextYard(int c, int y) {
            return part(c, GOAL) > y ? y + 1 : y - 1;
        }

        /** Whether a cart can go into a yard in which its rut is that deep. */
        private boolean isOpen(int c, int y, int w, int deep) {
            if (part(c, KIND) == SLEDGE) return hasYard(y);
            return hasRut(y, w) && deep <= part(c, AXLE);
        }

        private int tollOf(int c, int y, int w) {
            return part(c, KIND) == SMUGGLER ? 0 : at(toll, rut(y, w));
        }

        /** Whether a cart that makes tracks goes to a yard on its way to its goal. */
        private boolean makesTrack(int c, int y) {
            if (part(c, KIND) == SLEDGE) return false;
            int from = part(c, YARD);
            int goal = part(c, GOAL);
            return from < goal ? y > from && y <= goal : y < from && y >= goal;
        }

        private boolean isFirm(int a, int b, int c) {
            return a + b + c == at(cost, ALL_PEOPLES)
                && a <= at(cost, 1) && b <= at(cost, 2) && c <= at(cost, 4)
                && a + b <= at(cost, 3) && a + c <= at(cost, 5) && b + c <= at(cost, 6);
        }

        /** What refuses a track when there are so many already; 0: nothing. */
        private int refusesTrack(int y, int w, int many) {
            if (!hasYard(y) || !isWidth(w)) return BAD;
            return many >= TRACKS ? FULL : 0;
        }

        private int addTrack(int y, int w) {
            put(track, tracks, rut(y, w));
            tracks++;
            return tracks;
        }

        private int trackAt(int i) {
            return at(track, i);
        }
    }

    /** THE TAPE, and the road of its own that it tells. */
    static final class Reader {
        private static final int END = 0;
        private static final int NAME = 1;
        private static final int NUMBER = 2;
        private static final int SIGN = 3;
        private static final int NO_TOKEN = 4;
        private static final int FIGURES = 2;
        private static final int REFUSED = -1;

        private final byte[] tape = new byte[TAPE];
        private int length = 0;
        private final Road told = new Road();
        private int fault = 0;
        private int place = 0;
        /** The token taken last: its sort, its first byte, and the byte behind it. */
        private int sort = END;
        private int from = 0;
        private int spot = 0;
        private boolean isLastTold = false;
        private int costsTold = 0;
        private long rutsTold = 0;
        private int farthest = 0;

        private int append(long v) {
            for (int shift = 56; shift >= 0; shift -= 8) {
                if (length >= 0 && length < tape.length) tape[length] = (byte) (v >> shift);
                length++;
            }
            return length;
        }

        /** How many lines are told, or REFUSED by a fault. */
        private int takeText() {
            told.reset();
            fault = 0;
            place = 0;
            spot = 0;
            isLastTold = false;
            costsTold = 0;
            rutsTold = 0;
            farthest = 0;
            for (int lines = 0; lines <= TAPE; lines++) {
                if (!takeToken()) return REFUSED;
                if (sort == END) return isWhole() ? lines : REFUSED;
                if (!takeLine()) return REFUSED;
            }
            return REFUSED;
        }

        /** What can be seen only when all is told. */
        private boolean isWhole() {
            if (farthest > told.last) return refuse(6, length);
            for (int r = 0; r < RUTS; r++) {
                if ((rutsTold >> r & 1L) != 0 && !told.hasRut(r / WIDTHS, r % WIDTHS)) return refuse(7, length);
            }
            return true;
        }

        private boolean refuse(int number, int where) {
            fault = number;
            place = where;
            return false;
        }

        private boolean takeToken() {
            while (spot < length && byteAt(spot) == ' ') spot++;
            from = spot;
            sort = sortAt(spot);
            if (sort == SIGN) spot++;
            if (sort == NAME || sort == NUMBER) {
                while (spot < length && sortAt(spot) == sort) spot++;
            }
            boolean isToken = sort != NO_TOKEN && (sort != NUMBER || spot - from <= FIGURES);
            return isToken || refuse(1, from);
        }

        private int sortAt(int i) {
            if (i < 0 || i >= length || i >= tape.length) return END;
            int b = tape[i];
            if (b >= 'a' && b <= 'z') return NAME;
            if (b >= '0' && b <= '9') return NUMBER;
            return b == ';' ? SIGN : NO_TOKEN;
        }

        private int byteAt(int i) {
            return i >= 0 && i < length && i < tape.length ? tape[i] : 0;
        }

        private boolean isName(String name) {
            if (sort != NAME || spot - from != name.length()) return false;
            for (int i = 0; i < name.length(); i++) {
                if (byteAt(from + i) != name.charAt(i)) return false;
            }
            return true;
        }

        private boolean takeSign() {
            return takeToken() && (sort == SIGN || refuse(2, from));
        }

        private int takeNumber(int least, int most) {
            if (!takeToken()) return REFUSED;
            boolean isNumber = sort == NUMBER || refuse(2, from);
            int v = 0;
            for (int i = from; isNumber && i < spot; i++) v = 10 * v + byteAt(i) - '0';
            boolean isTaken = isNumber && (v >= least && v <= most || refuse(3, from));
            return isTaken ? v : REFUSED;
        }

        private int takeYard() {
            int y = takeNumber(0, YARDS - 1);
            farthest = Math.max(farthest, y);
            return y;
        }

        private int takeWidth() {
            return takeNumber(0, WIDTHS - 1);
        }

        private boolean takeLine() {
            if (isName("yards")) return takeLast();
            if (isName("bog")) return takeBog();
            if (isName("hill")) return takeHill();
            if (isName("smith")) return takeSmith();
            if (isName("toll")) return takeToll();
            if (isName("rut")) return takeRut();
            if (isName("frost")) return takeFrost();
            if (isName("cart")) return takeCart();
            return isName("cost") ? takeCost() : refuse(2, from);
        }

        private boolean takeLast() {
            if (isLastTold) return refuse(4, from);
            int y = takeNumber(2, YARDS - 1);
            if (y < 0) return false;
            told.last = y;
            isLastTold = true;
            return takeSign();
        }

        private boolean takeBog() {
            int y = takeYard();
            if (y < 0) return false;
            if (told.isBog(y)) return refuse(4, from);
            told.setBog(y);
            return takeSign();
        }

        private boolean takeHill() {
            int y = takeYard();
            if (y < 0) return false;
            if (told.hillAt(y) != NONE) return refuse(4, from);
            int w = takeWidth();
            if (w < 0) return false;
            told.setHill(y, w);
            return takeSign();
        }

        private boolean takeSmith() {
            int y = takeYard();
            if (y < 0) return false;
            if (told.smithAt(y) != NONE) return refuse(4, from);
            int v = takeNumber(0, 9);
            if (v < 0) return false;
            told.setSmith(y, v);
            return takeSign();
        }

        private boolean takeToll() {
            int y = takeYard();
            if (y < 0) return false;
            int w = takeWidth();
            if (w < 0) return false;
            int v = takeNumber(0, 9);
            if (v < 0) return false;
            put(told.toll, rut(y, w), v);
            return takeSign();
        }

        private boolean takeRut() {
            int y = takeYard();
            if (y < 0) return false;
            int w = takeWidth();
            if (w < 0) return false;
            int v = takeNumber(0, DEEPEST);
            if (v < 0) return false;
            put(told.depth, rut(y, w), v);
            rutsTold |= 1L << rut(y, w);
            return takeSign();
        }

        private boolean takeFrost() {
            int h = takeNumber(1, HOURS);
            if (h < 0) return false;
            if (told.isFrost(h)) return refuse(4, from);
            told.setFrost(h, true);
            return takeSign();
        }

        private boolean takeCart() {
            if (told.carts >= CARTS) return refuse(5, from);
            if (!takeToken()) return false;
            int kind = kindNamed();
            if (kind < 0) return refuse(2, from);
            int c = told.carts;
            told.swapPart(c, KIND, kind);
            for (int what = WIDTH; what <= START; what++) {
                boolean isYard = what == YARD || what == GOAL;
                int v = isYard ? takeYard() : takeNumber(at(PART_LEAST, what), at(PART_MOST, what));
                if (v < 0) return false;
                if (what == GOAL && v == told.part(c, YARD)) return refuse(4, from);
                told.swapPart(c, what, v);
            }
            told.carts++;
            return takeSign();
        }

        private int kindNamed() {
            if (isName("plain")) return PLAIN;
            if (isName("double")) return DOUBLE;
            if (isName("sledge")) return SLEDGE;
            if (isName("hired")) return HIRED;
            return isName("smuggler") ? SMUGGLER : REFUSED;
        }

        private boolean takeCost() {
            int some = takeNumber(1, ALL_PEOPLES);
            if (some < 0) return false;
            if ((costsTold >> some & 1) != 0) return refuse(4, from);
            int v = takeNumber(0, COST_MOST);
            if (v < 0) return false;
            put(told.cost, some, v);
            costsTold |= 1 << some;
            return takeSign();
        }
    }

    /** Carts one behind the other, by their numbers at first. */
    static final class Order {
        /** Five carts have so many orders. */
        private static final int MANY = 120;

        private final int[] carts = new int[CARTS];
        private int size = 0;

        private void begin(int n) {
            size = Math.min(n, CARTS);
            for (int i = 0; i < carts.length; i++) carts[i] = i;
        }

        private void copyOf(Order other) {
            size = other.size;
            copy(other.carts, carts);
        }

        /** Becomes the next order, as a row of numbers is behind another; whether there is one. */
        private boolean advance() {
            int i = size - 2;
            while (i >= 0 && at(carts, i) > at(carts, i + 1)) i--;
            if (i < 0) return false;
            int j = size - 1;
            while (j > i && at(carts, j) < at(carts, i)) j--;
            exchange(i, j);
            int high = size - 1;
            for (int low = i + 1; low < high; low++) {
                exchange(low, high);
                high--;
            }
            return true;
        }

        private void exchange(int i, int j) {
            put(carts, i, swap(carts, j, at(carts, i)));
        }
    }

    /** A run of the carts, beside the road, which it leaves as it is. */
    static final class Run {
        private final Road road;
        private final Order order = new Order();
        private final int[] yards = new int[CARTS];
        private final int[] tolls = new int[CARTS];
        private final int[] waits = new int[CARTS];
        /** The hour in which a cart came to its goal; 0: it did not. */
        private final int[] doneIn = new int[CARTS];
        /** Ruts as they were when they last changed, and how many frosts had been by then. */
        private final int[] deep = new int[RUTS];
        private final int[] thawed = new int[RUTS];
        private int frosts = 0;
        private int left = 0;
        private int steps = 0;
        private int lastStart = 0;
        private int waiting = 0;

        Run(Road road) {
            this.road = road;
        }

        private void begin(Order by) {
            order.copyOf(by);
            for (int c = 0; c < CARTS; c++) put(yards, c, road.part(c, YARD));
            wipe(tolls, 0);
            wipe(waits, 0);
            wipe(doneIn, 0);
            copy(road.depth, deep);
            wipe(thawed, 0);
            frosts = 0;
            left = road.carts;
            steps = 0;
            lastStart = 0;
            for (int c = 0; c < road.carts; c++) lastStart = Math.max(lastStart, road.part(c, START));
            waiting = 0;
        }

        private void level(int y) {
            for (int w = 0; w < WIDTHS; w++) setDepth(rut(y, w), 0);
        }

        private void upTo(int h) {
            for (int hour = 1; hour <= h; hour++) goHour(hour);
        }

        /** Whether all are done by an order, when yards y and z (NONE: no yard) are of depth 0 now. */
        private boolean allDone(Order by, int y, int z) {
            begin(by);
            if (y >= 0) level(y);
            if (z >= 0) level(z);
            // 2 divides one of two hours: if none goes in both, none ever will, unless a start or a frost is to come
            int still = 0;
            for (int hour = 1; hour <= HOURS && left > 0 && still < 2; hour++) {
                boolean canChange = hour <= lastStart || road.hasFrostFrom(hour);
                int before = steps;
                goHour(hour);
                still = canChange || steps > before ? 0 : still + 1;
            }
            return left == 0;
        }

        private void goHour(int hour) {
            waiting = 0;
            for (int i = 0; left > 0 && i < order.size; i++) moveIn(hour, at(order.carts, i));
            if (road.isFrost(hour)) frosts++;
        }

        private void moveIn(int hour, int c) {
            boolean isSledge = road.part(c, KIND) == SLEDGE;
            if (isDone(c) || hour <= road.part(c, START) || isSledge && hour % 2 != 0) return;
            int y = road.nextYard(c, at(yards, c));
            int w = road.part(c, WIDTH);
            if (road.isOpen(c, y, w, depthOf(rut(y, w))) && !isTaken(c, y, w)) {
                enter(c, y, w);
                if (y == road.part(c, GOAL)) {
                    put(doneIn, c, hour);
                    left--;
                }
            } else {
                put(waits, c, at(waits, c) + 1);
                waiting |= 1 << c;
            }
        }

        private void enter(int c, int y, int w) {
            steps++;
            put(yards, c, y);
            put(tolls, c, at(tolls, c) + road.tollOf(c, y, w));
            int kind = road.part(c, KIND);
            if (kind == SLEDGE) return;
            int more = kind == DOUBLE ? 2 * road.part(c, LOAD) : road.part(c, LOAD);
            setDepth(rut(y, w), Math.min(DEEPEST, depthOf(rut(y, w)) + more));
        }

        /** Whether another cart stands in a cart's way in a yard. */
        private boolean isTaken(int c, int y, int w) {
            for (int other = 0; other < road.carts; other++) {
                boolean isThere = other != c && !isDone(other) && at(yards, other) == y;
                if (isThere && (road.isBog(y) || road.part(other, WIDTH) == w)) return true;
            }
            return false;
        }

        private boolean isDone(int c) {
            return at(doneIn, c) > 0;
        }

        private int sumOfDone() {
            int sum = 0;
            for (int c = 0; c < road.carts; c++) sum += at(doneIn, c);
            return sum;
        }

        private int depthOf(int r) {
            return Math.max(0, at(deep, r) - (frosts - at(thawed, r)));
        }

        private void setDepth(int r, int v) {
            put(deep, r, v);
            put(thawed, r, frosts);
        }
    }

    /** The best order and the fewest yards to mend, found once and kept until something changes. */
    static final class Plans {
        private final Road road;
        private final Run run;
        private final Order tried = new Order();
        private final Order order = new Order();
        private boolean hasOrder = false;
        private boolean hasMending = false;
        /** The least sum of DONE, or NONE. */
        private int sum = NONE;
        /** How many yards must be mended, or NONE; then the yards. */
        private int mended = NONE;
        private int mendFirst = NONE;
        private int mendSecond = NONE;

        Plans(Road road, Run run) {
            this.road = road;
            this.run = run;
        }

        /** What was found holds no more. */
        private void drop() {
            hasOrder = false;
            hasMending = false;
        }

        private void findOrder() {
            if (hasOrder) return;
            hasOrder = true;
            sum = NONE;
            tried.begin(road.carts);
            for (int k = 0; k < Order.MANY; k++) {
                if (run.allDone(tried, NONE, NONE) && (sum == NONE || run.sumOfDone() < sum)) {
                    sum = run.sumOfDone();
                    order.copyOf(tried);
                }
                if (!tried.advance()) return;
            }
        }

        private void findMending() {
            if (hasMending) return;
            hasMending = true;
            tried.begin(road.carts);
            setMending(0, NONE, NONE);
            if (run.allDone(tried, NONE, NONE)) return;
            for (int y = 0; y <= road.last; y++) {
                setMending(1, y, NONE);
                if (isWorn(y) && run.allDone(tried, y, NONE)) return;
            }
            for (int y = 0; y <= road.last; y++) {
                for (int z = y + 1; isWorn(y) && z <= road.last; z++) {
                    setMending(2, y, z);
                    if (isWorn(z) && run.allDone(tried, y, z)) return;
                }
            }
            setMending(NONE, NONE, NONE);
        }

        private void setMending(int many, int y, int z) {
            mended = many;
            mendFirst = y;
            mendSecond = z;
        }

        /** Whether there is anything to mend in a yard: if not, mending it helps nobody. */
        private boolean isWorn(int y) {
            for (int w = 0; w < WIDTHS; w++) {
                if (at(road.depth, rut(y, w)) > 0) return true;
            }
            return false;
        }
    }

    /** The ways of one cart; it stands, yard and width together, where a rut has its place. */
    static final class Ways {
        private static final int CHANGE = 2;
        private static final int ACTS = 5;
        /** A rank is what comes first, what comes second, and acts, each below so many. */
        private static final int STEP = 1000;
        private static final int FAR = 2000000000;

        private final Road road;
        /** The least rank from each stand to the goal. */
        private final int[] ranks = new int[RUTS];
        private int c = 0;
        private boolean isByMoney = true;

        Ways(Road road) {
            this.road = road;
        }

        private void find(int cart, int by) {
            c = cart;
            isByMoney = by == 0;
            wipe(ranks, FAR);
            for (int w = 0; w < WIDTHS; w++) put(ranks, rut(road.part(c, GOAL), w), 0);
            boolean isBetter = true;
            for (int round = 0; isBetter && round <= RUTS; round++) {
                isBetter = false;
                for (int i = 0; i < RUTS * ACTS; i++) {
                    // up the road and down it by turns, as ways go both ways
                    int s = round % 2 == 0 ? i / ACTS : RUTS - 1 - i / ACTS;
                    int rank = rankBy(s, i % ACTS);
                    isBetter = isBetter || rank < at(ranks, s);
                    put(ranks, s, Math.min(rank, at(ranks, s)));
                }
            }
        }

        /** The rank of a way that begins with an act. */
        private int rankBy(int s, int act) {
            int to = standBehind(s, act);
            int rest = to < 0 ? FAR : at(ranks, to);
            return rest == FAR ? FAR : rest + rankOf(s, act, to);
        }

        private int rankOf(int s, int act, int to) {
            boolean isChange = act >= CHANGE;
            int money = isChange ? road.smithAt(s / WIDTHS) : road.tollOf(c, to / WIDTHS, to % WIDTHS);
            int hours = !isChange && road.part(c, KIND) == SLEDGE ? 2 : 1;
            return isByMoney ? (money * STEP + hours) * STEP + 1 : (hours * STEP + money) * STEP + 1;
        }

        /** Where the cart stands behind an act; NONE: it can not be done. */
        private int standBehind(int s, int act) {
            int y = s / WIDTHS;
            int w = s % WIDTHS;
            if (!road.hasYard(y)) return NONE;
            if (act >= CHANGE) {
                boolean isDone = act - CHANGE != w && road.smithAt(y) != NONE && road.part(c, KIND) != HIRED;
                return isDone ? rut(y, act - CHANGE) : NONE;
            }
            int next = act == 0 ? y + 1 : y - 1;
            return road.isOpen(c, next, w, at(road.depth, rut(next, w))) ? rut(next, w) : NONE;
        }

        private int begin() {
            return rut(road.part(c, YARD), road.part(c, WIDTH));
        }

        private boolean isFound() {
            return at(ranks, begin()) < FAR;
        }

        private int money() {
            return isByMoney ? first() : second();
        }

        private int hours() {
            return isByMoney ? second() : first();
        }

        private int first() {
            return at(ranks, begin()) / STEP / STEP;
        }

        private int second() {
            return at(ranks, begin()) / STEP % STEP;
        }

        private int acts() {
            return at(ranks, begin()) % STEP;
        }

        /** Act k of the best way, or NONE behind its end. */
        private int actAt(int k) {
            if (k >= acts()) return NONE;
            int s = begin();
            for (int i = 0; i < k; i++) s = standBehind(s, bestAct(s));
            return bestAct(s);
        }

        private int bestAct(int s) {
            for (int act = 0; act < ACTS; act++) {
                if (rankBy(s, act) == at(ranks, s)) return act;
            }
            return NONE;
        }

        /** The yards to which a cart can come. */
        private int reached(int cart) {
            c = cart;
            long stands = 1L << begin();
            long before = 0;
            for (int round = 0; stands != before && round <= RUTS; round++) {
                before = stands;
                for (int s = 0; s < RUTS; s++) {
                    if ((stands >> s & 1L) != 0) stands |= standsBehind(s);
                }
            }
            int yards = 0;
            for (int s = 0; s < RUTS; s++) {
                if ((stands >> s & 1L) != 0) yards |= 1 << s / WIDTHS;
            }
            return yards;
        }

        private long standsBehind(int s) {
            long stands = 0;
            for (int act = 0; act < ACTS; act++) {
                int to = standBehind(s, act);
                if (to >= 0) stands |= 1L << to;
            }
            return stands;
        }
    }

    /** The orders of all carts that fit the tracks. */
    static final class Fitting {
        private final Road road;
        private final Order tried = new Order();
        private final int[] first = new int[CARTS];
        private int many = 0;
        /** Bits of the carts that were the last in a yard. */
        private int lastOnes = 0;

        Fitting(Road road) {
            this.road = road;
        }

        private void find(int y) {
            many = 0;
            lastOnes = 0;
            tried.begin(road.carts);
            for (int k = 0; k < Order.MANY; k++) {
                if (isFitting()) {
                    if (many == 0) copy(tried.carts, first);
                    many++;
                    int c = lastIn(y);
                    if (c >= 0) lastOnes |= 1 << c;
                }
                if (!tried.advance()) return;
            }
        }

        private boolean isFitting() {
            for (int i = 0; i < road.tracks; i++) {
                int c = lastIn(road.trackAt(i) / WIDTHS);
                if (c < 0 || road.part(c, WIDTH) != road.trackAt(i) % WIDTHS) return false;
            }
            return true;
        }

        /** The last cart of the order that makes a track in a yard; NONE: there is none. */
        private int lastIn(int y) {
            for (int i = tried.size - 1; i >= 0; i--) {
                if (road.makesTrack(at(tried.carts, i), y)) return at(tried.carts, i);
            }
            return NONE;
        }
    }

    /** Rows of bytes, shorts or ints, and what the machine would find wrong in their use. */
    static final class Sheets {
        private static final int MANY = 4;
        private static final int CELLS = 40;
        private static final int BYTES = 0;
        private static final int SHORTS = 1;
        private static final int INTS = 2;
        private static final int NULL = 1;
        private static final int INDEX = 2;
        private static final int CAST = 3;
        private static final int SIZE = 4;

        private final int[] cells = new int[MANY * CELLS];
        private final int[] lanes = new int[MANY];
        /** How many cells a sheet has; NONE: it is nothing. */
        private final int[] sizes = {NONE, NONE, NONE, NONE};
        private int torn = 0;

        private static boolean isSheet(int k) {
            return k >= 0 && k < MANY;
        }

        private static boolean isLane(int lane) {
            return lane >= BYTES && lane <= INTS;
        }

        private int cellsOf(int k) {
            return k >= 0 && k < sizes.length ? sizes[k] : NONE;
        }

        private void make(int k, int lane, int n) {
            put(lanes, k, lane);
            put(sizes, k, n);
            for (int i = 0; i < n; i++) put(cells, k * CELLS + i, 0);
        }

        /** What the machine finds when a cell is asked for; 0: nothing. */
        private int faultOf(int k, int i) {
            if (cellsOf(k) < 0) return NULL;
            return i < 0 || i >= cellsOf(k) ? INDEX : 0;
        }

        private int cell(int k, int i) {
            return at(cells, k * CELLS + i);
        }

        private void set(int k, int i, int v) {
            int lane = at(lanes, k);
            int low = lane == BYTES ? (byte) v : lane == SHORTS ? (short) v : v;
            put(cells, k * CELLS + i, low);
        }

        /** How many pairs of n, from a cell on, can be read whole. */
        private int wholePairs(int k, int lane, int from, int n) {
            if (cellsOf(k) < 0 || at(lanes, k) != lane || from < 0 || from >= cellsOf(k)) return 0;
            return Math.min(n, (cellsOf(k) - from) / 2);
        }

        /** What the machine finds when so many pairs of n are whole; 0: nothing. */
        private int faultOfPairs(int k, int lane, int whole, int n) {
            if (cellsOf(k) < 0) return NULL;
            if (at(lanes, k) != lane) return CAST;
            return whole < n ? INDEX : 0;
        }
    }
}
