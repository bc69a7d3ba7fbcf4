import java.util.ArrayList;
import java.util.List;
import java.util.regex.Matcher;
import java.util.regex.Pattern;

/**
 * The whole face a second time, for runs of any calls: what arms mean is asked of the Model, texts are read by a
 * pattern, and sheets are real arrays, so that NULL, CAST, INDEX and SIZE are what the Java machine itself finds.
 */
final class Twin {
    private static final int BAD = -1, NOT = -2, FULL = -3, NONE = -4;
    private static final int NULL = -11, CAST = -12, INDEX = -13, SIZE = -14;
    private Model now = new Model();
    private Model kept;
    private String tape = "";
    private final Object[] sheets = new Object[4];

    // ---- what numbers may be

    private static boolean in(long v, int low, int high) {
        return low <= v && v <= high;
    }

    private static boolean point(int x, int y) {
        return in(x, 0, 20) && in(y, 0, 20);
    }

    private static boolean arm(long dx, long dy) {
        return in(dx, -9, 9) && in(dy, -9, 9) && !(dx == 0 && dy == 0);
    }

    private boolean thingThere(int thing) {
        return in(thing, 0, now.things.size() - 1);
    }

    private boolean personThere(int person) {
        return in(person, 0, now.people.size() - 1);
    }

    /** A set is of things that are there. */
    private boolean set(int set) {
        for (int bit = 0; bit < 32; bit++) {
            if ((set >> bit & 1) == 1 && !thingThere(bit)) {
                return false;
            }
        }
        return true;
    }

    private static int add(List<int[]> rows, int most, int... row) {
        if (rows.size() == most) {
            return FULL;
        }
        rows.add(row);
        return rows.size() - 1;
    }

    // ---- things, people, arms

    int thing(int x, int y, int breadth) {
        return point(x, y) && in(breadth, 0, 5) ? add(now.things, 10, x, y, breadth, 0, 0) : BAD;
    }

    int make(int thing, int what, int v) {
        int[] low = {0, 0, 0, -3, -3};
        int[] high = {20, 20, 5, 3, 3};
        if (!thingThere(thing) || !in(what, 0, 4) || !in(v, low[what], high[what])) {
            return BAD - 100000;
        }
        int was = now.things.get(thing)[what];
        now.things.get(thing)[what] = v;
        return was;
    }

    int at(int thing, int tick, int what) {
        if (!thingThere(thing) || !in(tick, 0, 60) || !in(what, 0, 1)) {
            return BAD - 100000;
        }
        int[] t = now.things.get(thing);
        return t[what] + tick * t[what + 3];
    }

    int person(int x, int y) {
        return point(x, y) ? add(now.people, 6, x, y) : BAD;
    }

    int walk(int person, int x, int y) {
        if (!personThere(person) || !point(x, y)) {
            return BAD;
        }
        int[] was = now.people.set(person, new int[] {x, y});
        return 100 * was[0] + was[1];
    }

    int rule(int what, int v) {
        if (!in(what, 0, 1) || !in(v, 0, 1)) {
            return BAD;
        }
        int was = what == 0 ? now.law0 : now.law1;
        now.law0 = what == 0 ? v : now.law0;
        now.law1 = what == 1 ? v : now.law1;
        return was;
    }

    int type(long w, int n) {
        if (!in(n, 1, 8)) {
            return BAD;
        }
        StringBuilder typed = new StringBuilder();
        for (int i = 0; i < n; i++) {
            int one = (int) (w >>> 8 * i & 255);
            if (!in(one, 32, 126)) {
                return BAD;
            }
            typed.insert(0, (char) one);
        }
        if (tape.length() + n > 100) {
            return FULL;
        }
        tape += typed;
        return tape.length();
    }

    /** How many bytes of the tape begin some text of this form; -1 if all of it is one. */
    private int begins(String form) {
        Matcher matcher = Pattern.compile(form).matcher(tape);
        if (matcher.matches()) {
            return -1;
        }
        for (int length = tape.length(); length > 0; length--) {
            matcher.region(0, length);
            if (matcher.matches() || matcher.hitEnd()) {
                return length;
            }
        }
        return 0;
    }

    int things() {
        String text = tape;
        String form = " *[0-9]+ *, *[0-9]+ *, *[0-5] *";
        int place = begins(form + "(;" + form + "){0,4}");
        String readable = place < 0 ? text : text.substring(0, place);
        tape = "";
        List<int[]> told = new ArrayList<>();
        Matcher number = Pattern.compile("[0-9]+").matcher(readable);
        List<Integer> numbers = new ArrayList<>();
        while (number.find()) {
            int value = Integer.parseInt(number.group().replaceFirst("^0+(?=.)", "").replaceFirst("^(...).*", "$1"));
            if (value > 20) {
                return -20 - number.start();
            }
            numbers.add(value);
        }
        if (place >= 0) {
            return -20 - place;
        }
        for (int i = 0; i + 2 < numbers.size(); i += 3) {
            told.add(new int[] {numbers.get(i), numbers.get(i + 1), numbers.get(i + 2), 0, 0});
        }
        now.things.clear();
        now.things.addAll(told);
        return told.size();
    }

    int talk() {
        String text = tape;
        String who = now.people.isEmpty() ? "[^ -~]" : "[0-" + (now.people.size() - 1) + "]";
        String form = " *" + who + " *[+-] *[0-9] *[+-] *[0-9] *";
        String sentence = form + "(," + form + "){0,2}";
        int place = begins(sentence + "(;" + sentence + "){0,5}");
        String readable = place < 0 ? text : text.substring(0, place);
        tape = "";
        Matcher still = Pattern.compile("[0-9] *[+-] *0 *([+-]) *0").matcher(readable);
        if (still.find()) {
            return -20 - still.start(1);
        }
        if (place >= 0) {
            return -20 - place;
        }
        now.talk.clear();
        for (String one : text.replace(" ", "").split(";")) {
            List<int[]> arms = new ArrayList<>();
            for (String arm : one.split(",")) {
                int dx = Integer.parseInt(arm.substring(1, 3));
                arms.add(new int[] {arm.charAt(0) - '0', dx, Integer.parseInt(arm.substring(3))});
            }
            now.talk.add(arms);
        }
        return now.talk.size();
    }

    int count(int what) {
        int arms = 0;
        for (List<int[]> sentence : now.talk) {
            arms += sentence.size();
        }
        int[] all = {now.things.size(), now.people.size(), now.talk.size(), arms, now.stalls.size(), now.told.size()};
        return in(what, 0, 5) ? all[what] : BAD;
    }

    // ---- what is meant

    int meets(int x, int y, int dx, int dy) {
        return point(x, y) && arm(dx, dy) ? now.met(now.things, new int[] {x, y}, new int[] {dx, dy}, 0) : BAD;
    }

    int means(int person, int dx, int dy, int tick) {
        return personThere(person) && arm(dx, dy) && in(tick, 0, 60) ? now.means(person, dx, dy, tick) : BAD;
    }

    int both(int one, int dx, int dy, int other, int ex, int ey) {
        if (!personThere(one) || !personThere(other) || !arm(dx, dy) || !arm(ex, ey)) {
            return BAD;
        }
        List<int[]> points = List.of(now.people.get(one), now.people.get(other));
        return now.meaning(now.things, points, List.of(new int[] {dx, dy}, new int[] {ex, ey}), 0);
    }

    int says(int sentence, int tick) {
        return in(sentence, 0, now.talk.size() - 1) && in(tick, 0, 60) ? now.says(sentence, tick) : BAD;
    }

    int dark(int tick) {
        return in(tick, 0, 60) ? now.dark(tick) : BAD;
    }

    int when(int person, int dx, int dy, int thing) {
        return personThere(person) && arm(dx, dy) && thingThere(thing) ? now.when(person, dx, dy, thing) : BAD;
    }

    int misread(int one, int dx, int dy, int other) {
        boolean two = personThere(one) && personThere(other) && one != other;
        return two && arm(dx, dy) ? now.means(other, dx, dy, 0) : BAD;
    }

    int bargain(int p, int dx, int dy, int q, int ex, int ey) {
        boolean two = personThere(p) && personThere(q) && p != q;
        return two && arm(dx, dy) && arm(ex, ey) ? now.bargain(p, dx, dy, q, ex, ey) : BAD;
    }

    // ---- from where, how many

    int share(int thing, int x, int y, int part) {
        return thingThere(thing) && point(x, y) && in(part, 0, 1) ? now.share(thing, x, y, part) : BAD;
    }

    int ground(int thing, int k) {
        return thingThere(thing) && in(k, -1, 440) ? now.ground(thing, k) : BAD;
    }

    int fewest(int set, int x, int y) {
        return set != 0 && set(set) && point(x, y) ? now.fewest(set, x, y) : BAD;
    }

    int aside(int set, int x, int y, int arms) {
        return set != 0 && set(set) && point(x, y) && in(arms, 1, 9) ? now.aside(set, x, y, arms) : BAD;
    }

    int meant(int dx, int dy, int set) {
        if (!arm(dx, dy) || !set(set)) {
            return BAD;
        }
        int number = add(now.told, 4, dx, dy, set);
        return number < 0 ? number : number + 1;
    }

    int stood(int what) {
        return in(what, 0, 2) ? now.stood(what) : BAD;
    }

    int stall(int x, int y) {
        return point(x, y) ? add(now.stalls, 8, x, y) : BAD;
    }

    int market(int n, int x, int y, int k) {
        return in(n, 1, 4) && point(x, y) && in(k, -1, n - 1) ? now.market(n, x, y, k) : BAD;
    }

    int clear() {
        int gone = count(4) + count(5) + count(2);
        now.stalls.clear();
        now.told.clear();
        now.talk.clear();
        return gone;
    }

    int image() {
        kept = copyOf(now);
        return 1;
    }

    int restore() {
        if (kept == null) {
            return NONE;
        }
        now = copyOf(kept);
        return 1;
    }

    private static Model copyOf(Model from) {
        Model to = new Model();
        to.law0 = from.law0;
        to.law1 = from.law1;
        copyRows(from.things, to.things);
        copyRows(from.people, to.people);
        copyRows(from.stalls, to.stalls);
        copyRows(from.told, to.told);
        for (List<int[]> sentence : from.talk) {
            List<int[]> arms = new ArrayList<>();
            copyRows(sentence, arms);
            to.talk.add(arms);
        }
        return to;
    }

    private static void copyRows(List<int[]> from, List<int[]> to) {
        for (int[] row : from) {
            to.add(row.clone());
        }
    }

    // ---- sheets: here the machine may throw, and what it throws is the answer that is due

    private static int found(RuntimeException thrown) {
        if (thrown instanceof NullPointerException) {
            return NULL;
        }
        if (thrown instanceof ClassCastException || thrown instanceof ArrayStoreException) {
            return CAST;
        }
        if (thrown instanceof IndexOutOfBoundsException) {
            return INDEX;
        }
        if (thrown instanceof NegativeArraySizeException) {
            return SIZE;
        }
        throw thrown;
    }

    private static boolean sheetAndLane(int sheet, int lane) {
        return in(sheet, 0, 3) && in(lane, 0, 2);
    }

    /** The item, after the row was taken as one of that lane; nothing is NULL, though Java would let it be cast. */
    private static long get(Object row, int lane, int i) {
        row.getClass();
        return lane == 0 ? ((short[]) row)[i] : lane == 1 ? ((int[]) row)[i] : ((long[]) row)[i];
    }

    int clears(int person, int sheet, int lane, int i, int n) {
        if (!personThere(person) || !sheetAndLane(sheet, lane) || !in(n, 1, 12)) {
            return BAD;
        }
        long[] items = new long[2 * n];
        try {
            for (int k = 0; k < 2 * n; k++) {
                items[k] = get(sheets[sheet], lane, i + k);
            }
        } catch (RuntimeException thrown) {
            return found(thrown);
        }
        int clear = 0;
        for (int k = 0; k < 2 * n; k += 2) {
            if (!arm(items[k], items[k + 1])) {
                return NOT;
            }
            clear += Integer.bitCount(now.means(person, (int) items[k], (int) items[k + 1], 0)) == 1 ? 1 : 0;
        }
        return clear;
    }

    int sheet(int sheet, int lane, int n) {
        if (!sheetAndLane(sheet, lane) || n > 24) {
            return BAD;
        }
        try {
            sheets[sheet] = lane == 0 ? new short[n] : lane == 1 ? new int[n] : (Object) new long[n];
        } catch (RuntimeException thrown) {
            return found(thrown);
        }
        return n;
    }

    int drop(int sheet) {
        if (!in(sheet, 0, 3)) {
            return BAD;
        }
        if (sheets[sheet] == null) {
            return NULL;
        }
        int had = java.lang.reflect.Array.getLength(sheets[sheet]);
        sheets[sheet] = null;
        return had;
    }

    int item(int sheet, int lane, int i, long v) {
        if (!sheetAndLane(sheet, lane)) {
            return BAD;
        }
        try {
            get(sheets[sheet], lane, i);
            switch (lane) {
                case 0:
                    ((short[]) sheets[sheet])[i] = (short) v;
                    break;
                case 1:
                    ((int[]) sheets[sheet])[i] = (int) v;
                    break;
                default:
                    ((long[]) sheets[sheet])[i] = v;
            }
        } catch (RuntimeException thrown) {
            return found(thrown);
        }
        return 1;
    }

    int copy(int from, int i, int to, int j, int n) {
        if (!in(from, 0, 3) || !in(to, 0, 3)) {
            return BAD;
        }
        try {
            System.arraycopy(sheets[from], i, sheets[to], j, n);
        } catch (RuntimeException thrown) {
            return found(thrown);
        }
        return n;
    }
}
