/**
 * People without names for things: they can only point. What their arms mean, from where a thing
 * alone can be meant, and by how few arms.
 *
 * <p>All rows are made in the constructor and used again: no call makes an object.
 */
public final class PointingArms {
    public static final int BAD = -1, NOT = -2, FULL = -3, NONE = -4, NULL = -11, CAST = -12, INDEX = -13, SIZE = -14;

    private static final int LESS = 100000;
    private static final int SIDE = 21;
    private static final int LAST_TICK = 60;
    private static final int LONGEST = 9;
    private static final int MOST_THINGS = 10;
    private static final int MOST_TYPED = 5;
    private static final int BROADEST = 5;
    private static final int FASTEST = 3;
    private static final int MOST_SENTENCES = 6;
    private static final int MOST_HELD = 3;
    private static final int MOST_LAID = 4;
    private static final int FARTHEST_ASIDE = 6;
    private static final int SHEETS = 4;
    private static final int LANES = 3;
    private static final int MOST_ITEMS = 24;
    private static final int MOST_CLEARED = 12;

    // Columns of THINGS, in the order by which make tells them; people and stalls have the first two.
    private static final int X = 0, Y = 1, BREADTH = 2, VX = 3, VY = 4;
    // Columns of what is told for STOOD.
    private static final int DX = 0, DY = 1, SET = 2;
    // Columns of the arms of a TALK.
    private static final int SENTENCE = 0, WHO = 1, BY_X = 2, BY_Y = 3;

    private final Fan fan = new Fan();
    private final Scene now = new Scene();
    private final Scene kept = new Scene();
    private boolean isKept;
    private final Tape tape = new Tape();
    private final Field typedThings = new Field();
    private final Rows typedArms = new Rows(4, MOST_SENTENCES * MOST_HELD);
    private final Cover cover = new Cover();
    private final Layout layout = new Layout();
    private final Sheet[] sheets = new Sheet[SHEETS];

    public PointingArms() {
        for (int i = 0; i < SHEETS; i++) {
            sheets[i] = new Sheet();
        }
    }

    // ---- 1 things, people, arms

    public int thing(int x, int y, int breadth) {
        if (!isPoint(x, y) || !fits(BREADTH, breadth)) {
            return BAD;
        }
        return addThing(now.field, x, y, breadth);
    }

    public int make(int thing, int what, int v) {
        if (!now.field.has(thing) || !fits(what, v)) {
            return BAD - LESS;
        }
        return now.field.put(thing, what, v);
    }

    public int at(int thing, int tick, int what) {
        if (!now.field.has(thing) || !isTick(tick) || what < X || what > Y) {
            return BAD - LESS;
        }
        return now.field.middle(thing, what, tick);
    }

    public int person(int x, int y) {
        return addPoint(now.people, x, y);
    }

    public int walk(int person, int x, int y) {
        if (!now.people.has(person) || !isPoint(x, y)) {
            return BAD;
        }
        int oldX = now.people.put(person, X, x);
        int oldY = now.people.put(person, Y, y);
        return 100 * oldX + oldY;
    }

    public int rule(int what, int v) {
        if (what < 0 || what > 1 || v < 0 || v > 1) {
            return BAD;
        }
        return now.field.changeLaw(what, v);
    }

    public int type(long w, int n) {
        if (!Tape.canHold(w, n)) {
            return BAD;
        }
        return tape.append(w, n) ? tape.size() : FULL;
    }

    public int things() {
        typedThings.empty();
        tape.begin();
        for (int i = 1; i <= MOST_TYPED; i++) {
            readThing();
            if (i == MOST_TYPED || !tape.takes(';')) {
                break;
            }
        }
        int fault = tape.finish();
        if (fault < 0) {
            return fault;
        }
        now.field.takeRows(typedThings);
        return now.field.size();
    }

    public int talk() {
        typedArms.empty();
        tape.begin();
        for (int i = 1; i <= MOST_SENTENCES; i++) {
            readSentence(i - 1);
            if (i == MOST_SENTENCES || !tape.takes(';')) {
                break;
            }
        }
        int fault = tape.finish();
        if (fault < 0) {
            return fault;
        }
        now.arms.takeRows(typedArms);
        return now.sentences();
    }

    public int count(int what) {
        switch (what) {
            case 0:
                return now.field.size();
            case 1:
                return now.people.size();
            case 2:
                return now.sentences();
            case 3:
                return now.arms.size();
            case 4:
                return now.stalls.size();
            case 5:
                return now.told.size();
            default:
                return BAD;
        }
    }

    // ---- 2 what is meant

    public int meets(int x, int y, int dx, int dy) {
        if (!isPoint(x, y) || !isArm(dx, dy)) {
            return BAD;
        }
        return now.field.metBy(x, y, dx, dy, 0);
    }

    public int means(int person, int dx, int dy, int tick) {
        if (!now.people.has(person) || !isArm(dx, dy) || !isTick(tick)) {
            return BAD;
        }
        return meaningOf(person, dx, dy, tick);
    }

    public int both(int one, int dx, int dy, int other, int ex, int ey) {
        if (!now.people.has(one) || !isArm(dx, dy) || !now.people.has(other) || !isArm(ex, ey)) {
            return BAD;
        }
        int met = metBy(one, dx, dy, 0) & metBy(other, ex, ey, 0);
        return now.field.narrowed(met, dx, dy, 0);
    }

    public int says(int sentence, int tick) {
        if (sentence < 0 || sentence >= now.sentences() || !isTick(tick)) {
            return BAD;
        }
        return meaningOfSentence(sentence, tick);
    }

    public int dark(int tick) {
        if (!isTick(tick)) {
            return BAD;
        }
        int set = 0;
        for (int i = 0; i < now.sentences(); i++) {
            if (!isOne(meaningOfSentence(i, tick))) {
                set |= 1 << i;
            }
        }
        return set;
    }

    public int when(int person, int dx, int dy, int thing) {
        if (!now.people.has(person) || !isArm(dx, dy) || !now.field.has(thing)) {
            return BAD;
        }
        for (int tick = 0; tick <= LAST_TICK; tick++) {
            if (meaningOf(person, dx, dy, tick) == 1 << thing) {
                return tick;
            }
        }
        return NONE;
    }

    public int misread(int one, int dx, int dy, int other) {
        if (!areTwo(one, other) || !isArm(dx, dy)) {
            return BAD;
        }
        return meaningOf(other, dx, dy, 0);
    }

    public int bargain(int p, int dx, int dy, int q, int ex, int ey) {
        if (!areTwo(p, q) || !isArm(dx, dy) || !isArm(ex, ey)) {
            return BAD;
        }
        int first = meaningOf(p, dx, dy, 0);
        int second = meaningOf(q, ex, ey, 0);
        boolean areClear = isOne(first) && isOne(second) && first != second;
        if (!areClear || meaningOf(q, dx, dy, 0) != first || meaningOf(p, ex, ey, 0) != second) {
            return NOT;
        }
        return 10 * Integer.numberOfTrailingZeros(first) + Integer.numberOfTrailingZeros(second);
    }

    // ---- 3 from where, how many

    public int share(int thing, int x, int y, int part) {
        if (!now.field.has(thing) || !isPoint(x, y) || part < 0 || part > 1) {
            return BAD;
        }
        int above = fan.armsFor(now.field, thing, x, y);
        int below = Fan.ARMS;
        for (int divisor = below; divisor > 1; divisor--) {
            if (above % divisor == 0 && below % divisor == 0) {
                above /= divisor;
                below /= divisor;
            }
        }
        return part == 0 ? above : below;
    }

    public int ground(int thing, int k) {
        if (!now.field.has(thing) || k < -1 || k >= SIDE * SIDE) {
            return BAD;
        }
        if (k >= 0) {
            return fan.canMean(now.field, thing, k % SIDE, k / SIDE) ? 1 : 0;
        }
        int points = 0;
        for (int y = 0; y < SIDE; y++) {
            for (int x = 0; x < SIDE; x++) {
                points += fan.canMean(now.field, thing, x, y) ? 1 : 0;
            }
        }
        return points;
    }

    public int fewest(int set, int x, int y) {
        if (!isSet(set) || set == 0 || !isPoint(x, y)) {
            return BAD;
        }
        return cover.fewestArms(now.field, fan, set, x, y);
    }

    public int aside(int set, int x, int y, int arms) {
        if (!isSet(set) || set == 0 || !isPoint(x, y) || arms < 1 || arms > 9) {
            return BAD;
        }
        for (int far = 0; far <= FARTHEST_ASIDE; far++) {
            int found = asideAt(far, set, x, y, arms);
            if (found >= 0) {
                return found;
            }
        }
        return NONE;
    }

    public int meant(int dx, int dy, int set) {
        if (!isArm(dx, dy) || !isSet(set)) {
            return BAD;
        }
        int row = now.told.open();
        if (row < 0) {
            return FULL;
        }
        now.told.put(row, DX, dx);
        now.told.put(row, DY, dy);
        now.told.put(row, SET, set);
        return now.told.size();
    }

    public int stood(int what) {
        if (what < 0 || what > 2) {
            return BAD;
        }
        int points = 0;
        for (int y = 0; y < SIDE; y++) {
            for (int x = 0; x < SIDE; x++) {
                if (!couldStand(x, y)) {
                    continue;
                }
                if (what > 0) {
                    return what == 1 ? x : y;
                }
                points++;
            }
        }
        return what == 0 ? points : NONE;
    }

    public int stall(int x, int y) {
        return addPoint(now.stalls, x, y);
    }

    public int market(int n, int x, int y, int k) {
        if (n < 1 || n > MOST_LAID || !isPoint(x, y) || k < -1 || k >= n) {
            return BAD;
        }
        if (now.field.size() < n || now.stalls.size() < n) {
            return NOT;
        }
        int ways = layout.leastWays(now, fan, n, x, y);
        if (ways < 0) {
            return NONE;
        }
        return k < 0 ? ways : layout.stallOf(k);
    }

    public int clear() {
        int gone = now.stalls.size() + now.told.size() + now.sentences();
        now.stalls.empty();
        now.told.empty();
        now.arms.empty();
        return gone;
    }

    public int image() {
        kept.takeAll(now);
        isKept = true;
        return 1;
    }

    public int restore() {
        if (!isKept) {
            return NONE;
        }
        now.takeAll(kept);
        return 1;
    }

    // ---- 4 sheets

    public int clears(int person, int sheet, int lane, int i, int n) {
        Sheet held = sheetOf(sheet);
        if (!now.people.has(person) || held == null || !isLane(lane) || n < 1 || n > MOST_CLEARED) {
            return BAD;
        }
        int refused = held.refusal(lane, i, 2 * n);
        if (refused < 0) {
            return refused;
        }
        int clear = 0;
        for (int arm = 0; arm < n; arm++) {
            long dx = held.get(i + 2 * arm);
            long dy = held.get(i + 2 * arm + 1);
            if (!isArm(dx, dy)) {
                return NOT;
            }
            clear += isOne(meaningOf(person, (int) dx, (int) dy, 0)) ? 1 : 0;
        }
        return clear;
    }

    public int sheet(int sheet, int lane, int n) {
        Sheet held = sheetOf(sheet);
        if (held == null || !isLane(lane) || n > MOST_ITEMS) {
            return BAD;
        }
        if (n < 0) {
            return SIZE;
        }
        held.renew(lane, n);
        return n;
    }

    public int drop(int sheet) {
        Sheet held = sheetOf(sheet);
        if (held == null) {
            return BAD;
        }
        if (held.isMissing()) {
            return NULL;
        }
        int had = held.size();
        held.lose();
        return had;
    }

    public int item(int sheet, int lane, int i, long v) {
        Sheet held = sheetOf(sheet);
        if (held == null || !isLane(lane)) {
            return BAD;
        }
        int refused = held.refusal(lane, i, 1);
        if (refused < 0) {
            return refused;
        }
        held.put(i, v);
        return 1;
    }

    public int copy(int from, int i, int to, int j, int n) {
        Sheet source = sheetOf(from);
        Sheet target = sheetOf(to);
        if (source == null || target == null) {
            return BAD;
        }
        if (source.isMissing() || target.isMissing()) {
            return NULL;
        }
        int refused = target.refusal(source.lane(), j, n);
        if (refused < 0) {
            return refused;
        }
        refused = source.refusal(source.lane(), i, n);
        if (refused < 0) {
            return refused;
        }
        target.takeItems(source, i, j, n);
        return n;
    }

    // ---- what the calls share

    private static boolean isPoint(int x, int y) {
        return x >= 0 && x < SIDE && y >= 0 && y < SIDE;
    }

    /** Takes longs, since the items of a sheet may be far too great for an arm. */
    private static boolean isArm(long dx, long dy) {
        boolean isShort = dx >= -LONGEST && dx <= LONGEST && dy >= -LONGEST && dy <= LONGEST;
        return isShort && (dx != 0 || dy != 0);
    }

    private static boolean isTick(int tick) {
        return tick >= 0 && tick <= LAST_TICK;
    }

    private static boolean isLane(int lane) {
        return lane >= 0 && lane < LANES;
    }

    private static boolean isOne(int set) {
        return Integer.bitCount(set) == 1;
    }

    private boolean isSet(int set) {
        return set >= 0 && set < 1 << now.field.size();
    }

    private boolean areTwo(int one, int other) {
        return now.people.has(one) && now.people.has(other) && one != other;
    }

    private Sheet sheetOf(int number) {
        return number >= 0 && number < sheets.length ? sheets[number] : null;
    }

    /** Whether a thing's column may hold v. */
    private static boolean fits(int column, int v) {
        switch (column) {
            case X:
            case Y:
                return v >= 0 && v < SIDE;
            case BREADTH:
                return v >= 0 && v <= BROADEST;
            case VX:
            case VY:
                return v >= -FASTEST && v <= FASTEST;
            default:
                return false;
        }
    }

    private static int addThing(Field field, int x, int y, int breadth) {
        int row = field.open();
        if (row < 0) {
            return FULL;
        }
        field.put(row, X, x);
        field.put(row, Y, y);
        field.put(row, BREADTH, breadth);
        return row;
    }

    private static int addPoint(Rows points, int x, int y) {
        if (!isPoint(x, y)) {
            return BAD;
        }
        int row = points.open();
        if (row < 0) {
            return FULL;
        }
        points.put(row, X, x);
        points.put(row, Y, y);
        return row;
    }

    private int metBy(int person, int dx, int dy, int tick) {
        return now.field.metBy(now.people.get(person, X), now.people.get(person, Y), dx, dy, tick);
    }

    private int meaningOf(int person, int dx, int dy, int tick) {
        return now.field.narrowed(metBy(person, dx, dy, tick), dx, dy, tick);
    }

    private int meaningOfSentence(int sentence, int tick) {
        int first = -1;
        int met = 0;
        for (int i = 0; i < now.arms.size(); i++) {
            if (now.arms.get(i, SENTENCE) != sentence) {
                continue;
            }
            int one = metBy(now.arms.get(i, WHO), now.arms.get(i, BY_X), now.arms.get(i, BY_Y), tick);
            met = first < 0 ? one : met & one;
            first = first < 0 ? i : first;
        }
        return now.field.narrowed(met, now.arms.get(first, BY_X), now.arms.get(first, BY_Y), tick);
    }

    /** The first point just so far away that will do, as 100 times x, and y; or NONE. */
    private int asideAt(int far, int set, int x, int y, int arms) {
        for (int py = 0; py < SIDE; py++) {
            for (int px = 0; px < SIDE; px++) {
                if (Math.abs(px - x) + Math.abs(py - y) != far) {
                    continue;
                }
                int fewest = cover.fewestArms(now.field, fan, set, px, py);
                if (fewest >= 0 && fewest <= arms) {
                    return 100 * px + py;
                }
            }
        }
        return NONE;
    }

    private boolean couldStand(int x, int y) {
        for (int i = 0; i < now.told.size(); i++) {
            int dx = now.told.get(i, DX);
            int dy = now.told.get(i, DY);
            if (now.field.narrowed(now.field.metBy(x, y, dx, dy, 0), dx, dy, 0) != now.told.get(i, SET)) {
                return false;
            }
        }
        return true;
    }

    private void readThing() {
        int x = tape.readNumber(SIDE - 1);
        tape.needs(',');
        int y = tape.readNumber(SIDE - 1);
        tape.needs(',');
        int breadth = tape.readDigit(BROADEST);
        addThing(typedThings, x, y, breadth);
    }

    private void readSentence(int sentence) {
        for (int i = 1; i <= MOST_HELD; i++) {
            readArm(sentence);
            if (i == MOST_HELD || !tape.takes(',')) {
                break;
            }
        }
    }

    private void readArm(int sentence) {
        int who = tape.readDigit(now.people.size() - 1);
        int dx = tape.readSigned();
        int signOfDy = tape.placeOfNext();
        int dy = tape.readSigned();
        if (dx == 0 && dy == 0) {
            tape.failAt(signOfDy);
        }
        int row = typedArms.open();
        typedArms.put(row, SENTENCE, sentence);
        typedArms.put(row, WHO, who);
        typedArms.put(row, BY_X, dx);
        typedArms.put(row, BY_Y, dy);
    }

    /** Rows of whole numbers, all of one width, numbered as they come. */
    private static class Rows {
        final int width;
        final int most;
        final int[] cells;
        private int size;

        Rows(int width, int most) {
            this.width = width;
            this.most = most;
            this.cells = new int[width * most];
        }

        final int size() {
            return size;
        }

        final boolean has(int row) {
            return row >= 0 && row < size;
        }

        /** A new row of zeros: its number, or -1 if there is no room. */
        final int open() {
            if (size >= most) {
                return -1;
            }
            for (int column = 0; column < width; column++) {
                cells[size * width + column] = 0;
            }
            size++;
            return size - 1;
        }

        final int get(int row, int column) {
            boolean isThere = row >= 0 && row < size && column >= 0 && column < width;
            return isThere ? cells[row * width + column] : 0;
        }

        /** Answers what stood there. */
        final int put(int row, int column, int v) {
            int old = get(row, column);
            if (has(row) && column >= 0 && column < width) {
                cells[row * width + column] = v;
            }
            return old;
        }

        final void empty() {
            size = 0;
        }

        final void takeRows(Rows other) {
            if (other.cells.length != cells.length) {
                return;
            }
            System.arraycopy(other.cells, 0, cells, 0, cells.length);
            size = other.size;
        }
    }

    /** The things and the laws by which arms mean them. */
    private static final class Field extends Rows {
        private static final int COLUMNS = 5;
        private int firstOnly;
        private int touched = 1;

        Field() {
            super(COLUMNS, MOST_THINGS);
        }

        int changeLaw(int which, int v) {
            int old = which == 0 ? firstOnly : touched;
            if (which == 0) {
                firstOnly = v;
            } else {
                touched = v;
            }
            return old;
        }

        void takeLaws(Field other) {
            firstOnly = other.firstOnly;
            touched = other.touched;
        }

        int middle(int thing, int axis, int tick) {
            if (thing < 0 || thing >= MOST_THINGS || axis < X || axis > Y) {
                return 0;
            }
            int start = thing * COLUMNS;
            return cells[start + axis] + tick * cells[start + VX + axis];
        }

        boolean isMet(int thing, int px, int py, int dx, int dy, int tick) {
            int a = middle(thing, X, tick) - px;
            int b = middle(thing, Y, tick) - py;
            if (a * dx + b * dy <= 0) {
                return false;
            }
            int square = get(thing, BREADTH) * get(thing, BREADTH);
            int f = a * dy - b * dx;
            int over = f * f - square * (dx * dx + dy * dy);
            return a * a + b * b > square && (over < 0 || over == 0 && touched == 1);
        }

        int metBy(int px, int py, int dx, int dy, int tick) {
            int set = 0;
            for (int thing = 0; thing < size(); thing++) {
                if (isMet(thing, px, py, dx, dy, tick)) {
                    set |= 1 << thing;
                }
            }
            return set;
        }

        /** What is meant of those met: all, or by law that which is ahead by the arm. */
        int narrowed(int set, int dx, int dy, int tick) {
            if (firstOnly == 0 || set == 0) {
                return set;
            }
            int first = Integer.numberOfTrailingZeros(set);
            for (int thing = first + 1; thing < size(); thing++) {
                if ((set >> thing & 1) == 1 && isAhead(thing, first, dx, dy, tick)) {
                    first = thing;
                }
            }
            return 1 << first;
        }

        /** Whether an arm at tick 0 means this thing alone; asks of this thing first, since most arms miss it. */
        boolean meansJust(int thing, int px, int py, int dx, int dy) {
            if (!isMet(thing, px, py, dx, dy, 0)) {
                return false;
            }
            for (int other = 0; other < size(); other++) {
                boolean counts = other != thing && (firstOnly == 0 || isAhead(other, thing, dx, dy, 0));
                if (counts && isMet(other, px, py, dx, dy, 0)) {
                    return false;
                }
            }
            return true;
        }

        /** By the same arm the point where it starts adds the same to both, so it is left out. */
        private boolean isAhead(int one, int other, int dx, int dy, int tick) {
            int mine = middle(one, X, tick) * dx + middle(one, Y, tick) * dy;
            int its = middle(other, X, tick) * dx + middle(other, Y, tick) * dy;
            return mine < its || mine == its && one < other;
        }
    }

    /** All that an image keeps. */
    private static final class Scene {
        final Field field = new Field();
        final Rows people = new Rows(2, 6);
        final Rows arms = new Rows(4, MOST_SENTENCES * MOST_HELD);
        final Rows stalls = new Rows(2, 8);
        final Rows told = new Rows(3, 4);

        int sentences() {
            return arms.size() == 0 ? 0 : arms.get(arms.size() - 1, SENTENCE) + 1;
        }

        void takeAll(Scene other) {
            field.takeRows(other.field);
            field.takeLaws(other.field);
            people.takeRows(other.people);
            arms.takeRows(other.arms);
            stalls.takeRows(other.stalls);
            told.takeRows(other.told);
        }
    }

    /** THE FAN: the arms by -5 .. 5 without a common divisor. */
    private static final class Fan {
        static final int ARMS = 80;
        private static final int REACH = 5;
        private final int[] byX = new int[ARMS];
        private final int[] byY = new int[ARMS];

        Fan() {
            int arm = 0;
            for (int dy = -REACH; dy <= REACH; dy++) {
                for (int dx = -REACH; dx <= REACH; dx++) {
                    if (arm < ARMS && !haveDivisor(dx, dy)) {
                        byX[arm] = dx;
                        byY[arm] = dy;
                        arm++;
                    }
                }
            }
        }

        /** Of 0 and 0 too: all divide them. */
        private static boolean haveDivisor(int dx, int dy) {
            for (int divisor = 2; divisor <= REACH; divisor++) {
                if (dx % divisor == 0 && dy % divisor == 0) {
                    return true;
                }
            }
            return false;
        }

        int dx(int arm) {
            return arm >= 0 && arm < ARMS ? byX[arm] : 0;
        }

        int dy(int arm) {
            return arm >= 0 && arm < ARMS ? byY[arm] : 0;
        }

        boolean canMean(Field field, int thing, int px, int py) {
            for (int arm = 0; arm < ARMS; arm++) {
                if (field.meansJust(thing, px, py, byX[arm], byY[arm])) {
                    return true;
                }
            }
            return false;
        }

        int armsFor(Field field, int thing, int px, int py) {
            int arms = 0;
            for (int arm = 0; arm < ARMS; arm++) {
                arms += field.meansJust(thing, px, py, byX[arm], byY[arm]) ? 1 : 0;
            }
            return arms;
        }
    }

    /** The fewest arms of the fan for a set and nothing else. */
    private static final class Cover {
        private static final int SETS = 1 << MOST_THINGS;
        private static final int TOO_MANY = 100;
        // Unlike meanings of single arms: like ones would only be tried again.
        private final int[] meanings = new int[Fan.ARMS];
        private int size;
        private final int[] least = new int[SETS];

        int fewestArms(Field field, Fan fan, int set, int px, int py) {
            if (set < 0 || set >= SETS || !collect(field, fan, set, px, py)) {
                return NONE;
            }
            for (int part = 0; part <= set; part++) {
                least[part] = TOO_MANY;
            }
            least[0] = 0;
            // An arm only adds to a part, so each part is ready before it is gone on from.
            for (int part = 0; part < set; part++) {
                if (least[part] < TOO_MANY) {
                    goOnFrom(part);
                }
            }
            return least[set] < TOO_MANY ? least[set] : NONE;
        }

        /** Whether the arms that mean some of the set and no other mean all of it. */
        private boolean collect(Field field, Fan fan, int set, int px, int py) {
            size = 0;
            int all = 0;
            for (int arm = 0; arm < Fan.ARMS; arm++) {
                int dx = fan.dx(arm);
                int dy = fan.dy(arm);
                int meaning = field.narrowed(field.metBy(px, py, dx, dy, 0), dx, dy, 0);
                if (meaning != 0 && (meaning & ~set) == 0) {
                    all |= meaning;
                    note(meaning);
                }
            }
            return all == set;
        }

        private void note(int meaning) {
            for (int i = 0; i < size; i++) {
                if (meanings[i] == meaning) {
                    return;
                }
            }
            if (size < meanings.length) {
                meanings[size] = meaning;
                size++;
            }
        }

        private void goOnFrom(int part) {
            for (int i = 0; i < size; i++) {
                int more = part | meanings[i];
                if (more < SETS && least[more] > least[part] + 1) {
                    least[more] = least[part] + 1;
                }
            }
        }
    }

    /** A market: the first things laid on stalls, so that each can be meant alone from the gate. */
    private static final class Layout {
        private final Field laid = new Field();
        private final int[] tried = new int[MOST_LAID];
        private final int[] chosen = new int[MOST_LAID];

        int stallOf(int thing) {
            return thing >= 0 && thing < MOST_LAID ? chosen[thing] : NONE;
        }

        /** The ways added, or NONE; goes through the rows of stalls in their order, so the first of like ones stays. */
        int leastWays(Scene scene, Fan fan, int n, int gateX, int gateY) {
            bring(scene.field, n);
            int stalls = scene.stalls.size();
            int rows = 1;
            for (int i = 0; i < n; i++) {
                rows *= stalls;
            }
            int least = NONE;
            for (int row = 0; row < rows; row++) {
                if (!choose(row, n, stalls)) {
                    continue;
                }
                int ways = lay(scene.stalls, n, gateX, gateY);
                if ((least < 0 || ways < least) && eachAlone(fan, n, gateX, gateY)) {
                    least = ways;
                    System.arraycopy(tried, 0, chosen, 0, MOST_LAID);
                }
            }
            return least;
        }

        private void bring(Field field, int n) {
            laid.empty();
            laid.takeLaws(field);
            for (int thing = 0; thing < n; thing++) {
                addThing(laid, 0, 0, field.get(thing, BREADTH));
            }
        }

        /** The stalls of a row, the last thing's as its lowest digit; whether they are all unlike. */
        private boolean choose(int row, int n, int stalls) {
            int rest = row;
            int used = 0;
            for (int thing = n - 1; thing >= 0; thing--) {
                if (stalls < 1 || thing >= MOST_LAID) {
                    return false;
                }
                tried[thing] = rest % stalls;
                used |= 1 << tried[thing];
                rest /= stalls;
            }
            return Integer.bitCount(used) == n;
        }

        private int lay(Rows stalls, int n, int gateX, int gateY) {
            int ways = 0;
            for (int thing = 0; thing < n && thing < MOST_LAID; thing++) {
                int x = stalls.get(tried[thing], X);
                int y = stalls.get(tried[thing], Y);
                laid.put(thing, X, x);
                laid.put(thing, Y, y);
                ways += Math.abs(x - gateX) + Math.abs(y - gateY);
            }
            return ways;
        }

        private boolean eachAlone(Fan fan, int n, int gateX, int gateY) {
            for (int thing = 0; thing < n; thing++) {
                if (!fan.canMean(laid, thing, gateX, gateY)) {
                    return false;
                }
            }
            return true;
        }
    }

    /** THE TAPE, and how it is read: behind the first fault all reading answers 0 and goes no farther. */
    private static final class Tape {
        private static final int MOST = 100;
        private static final int END = -1;
        private static final int FIRST_FAULT = -20;
        private final int[] bytes = new int[MOST];
        private int size;
        private int place;
        private int fault;

        static boolean canHold(long w, int n) {
            if (n < 1 || n > 8) {
                return false;
            }
            for (int i = 0; i < n; i++) {
                int one = byteOf(w, i);
                if (one < 32 || one > 126) {
                    return false;
                }
            }
            return true;
        }

        private static int byteOf(long w, int i) {
            return (int) (w >>> 8 * i) & 255;
        }

        int size() {
            return size;
        }

        boolean append(long w, int n) {
            if (n < 0 || n > MOST - size) {
                return false;
            }
            for (int i = n - 1; i >= 0; i--) {
                bytes[size] = byteOf(w, i);
                size++;
            }
            return true;
        }

        void begin() {
            place = 0;
            fault = 0;
        }

        /** The tape is empty then: the fault, or 0 if all could be read. */
        int finish() {
            if (next() != END) {
                failAt(place);
            }
            size = 0;
            return fault;
        }

        void failAt(int where) {
            if (fault == 0) {
                fault = FIRST_FAULT - where;
            }
        }

        int placeOfNext() {
            next();
            return place;
        }

        boolean takes(char sign) {
            if (fault != 0 || next() != sign) {
                return false;
            }
            place++;
            return true;
        }

        void needs(char sign) {
            if (!takes(sign)) {
                failAt(place);
            }
        }

        int readDigit(int most) {
            int digit = fault == 0 ? next() - '0' : END;
            if (digit < 0 || digit > most) {
                failAt(place);
                return 0;
            }
            place++;
            return digit;
        }

        int readSigned() {
            boolean isMinus = takes('-');
            if (!isMinus) {
                needs('+');
            }
            int digit = readDigit(LONGEST);
            return isMinus ? -digit : digit;
        }

        int readNumber(int most) {
            int value = readDigit(9);
            int first = place - 1;
            while (fault == 0 && place < size && isDigit(bytes[place])) {
                // Far too great is great enough: a long number must not wrap round.
                value = Math.min(10 * value + bytes[place] - '0', 1000);
                place++;
            }
            if (value > most) {
                failAt(first);
            }
            return value;
        }

        private static boolean isDigit(int one) {
            return one >= '0' && one <= '9';
        }

        /** The next byte behind blanks, at which the place is then; or END. */
        private int next() {
            while (place < size && bytes[place] == ' ') {
                place++;
            }
            return place < size ? bytes[place] : END;
        }
    }

    /** A sheet: nothing, or a row of a lane; its items are kept as longs, cut to the lane when they come. */
    private static final class Sheet {
        private static final int NOTHING = -1;
        private int lane = NOTHING;
        private int size;
        private final long[] items = new long[MOST_ITEMS];

        boolean isMissing() {
            return lane == NOTHING;
        }

        int lane() {
            return lane;
        }

        int size() {
            return size;
        }

        void renew(int newLane, int n) {
            lane = newLane;
            size = n;
            for (int i = 0; i < items.length; i++) {
                items[i] = 0;
            }
        }

        void lose() {
            lane = NOTHING;
            size = 0;
        }

        /** NULL, CAST or INDEX for n items from i on, taken as a row of a lane; or 0. */
        int refusal(int asLane, int i, int n) {
            if (isMissing()) {
                return NULL;
            }
            if (lane != asLane) {
                return CAST;
            }
            return n < 0 || i < 0 || i > size - n ? INDEX : 0;
        }

        long get(int i) {
            return i >= 0 && i < size && i < items.length ? items[i] : 0;
        }

        void put(int i, long v) {
            if (i >= 0 && i < size && i < items.length) {
                items[i] = lane == 0 ? (short) v : lane == 1 ? (int) v : v;
            }
        }

        void takeItems(Sheet source, int i, int j, int n) {
            if (source.refusal(lane, i, n) == 0 && refusal(lane, j, n) == 0) {
                System.arraycopy(source.items, i, items, j, n);
            }
        }
    }
}
