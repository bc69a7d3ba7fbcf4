import java.lang.reflect.InvocationTargetException;
import java.lang.reflect.Method;
import java.util.Arrays;
import java.util.Map;
import java.util.Random;
import java.util.TreeMap;

/** Runs of 512 calls of the whole face, by fixed seeds: the class and its twin must answer alike, call by call. */
final class TwinTest {
    private static final int RUNS = 300;
    private static final int CALLS = 512;
    private static final Due due = new Due();
    /**
     * Each call with what its numbers are: p person, t thing, x point's x or y, w that of one of the people, d dx or
     * dy, k tick, s set, L lane, S sheet, i item, n how many items, N as many as a sheet has, m what and v to what, a
     * arms, M how many things, g ground's k, - set apart, and a digit for a number from 0 up to it.
     */
    private static final String[] CALLS_AND_KINDS = {"thing xx5", "thing xx5", "make tmv", "make tmv", "at tk1", "person ww",
        "person ww", "walk pww", "walk pww", "rule 11", "rule 11", "type ", "things ", "talk ", "talk ", "count 5", "meets xxdd",
        "means pddk", "means pddk", "both pddpdd", "both pddpdd", "says 5k", "says 5k", "dark k", "when pddt", "misread pddp",
        "misread pddp", "when pddt", "bargain pddpdd", "bargain pddpdd", "share txx1", "ground tg", "fewest sxx", "aside sxxa",
        "meant dds", "meant dds", "stood 2", "stall xx", "stall xx", "market Mxx-", "clear ", "image ", "restore ",
        "clears pSLin", "clears pSLin", "clears pSLin", "sheet SLN", "sheet SLN", "drop S", "item SLid", "item SLid", "item SLid",
        "item SLid", "item SLid", "copy SiSin", "copy SiSin"};
    /** A run begins with these, so that there is something to ask for. */
    private static final String[] BEGINNING = {"thing xx5", "person ww", "sheet SLN", "item SLid", "item SLid"};
    private static final int BEGUN = 40;
    private static final Map<String, Method> FACE = methods(PointingArms.class);
    private static final Map<String, Method> TWIN = methods(Twin.class);
    private static Random random;
    /** Of each run: the lane of most sheets, where most people are, one of how many numbers is wrong. */
    private static int lane;
    private static int place;
    private static int careful;
    private static int asked;

    public static void main(String[] args) throws ReflectiveOperationException {
        Map<String, int[]> answers = new TreeMap<>();
        for (int seed = 0; seed < RUNS; seed++) {
            run(seed, answers);
        }
        due.is("calls of the face that were asked", answers.size(), 34);
        for (Map.Entry<String, int[]> one : answers.entrySet()) {
            due.is(one.getKey() + " was often not refused", one.getValue()[0] > 50 ? 1 : 0, 1);
            boolean isNeverRefused = one.getKey().matches("clear|image");
            due.is(one.getKey() + " was refused too", isNeverRefused || one.getValue()[1] > 10 ? 1 : 0, 1);
        }
        due.end();
    }

    private static Map<String, Method> methods(Class<?> type) {
        Map<String, Method> methods = new TreeMap<>();
        for (Method method : type.getDeclaredMethods()) {
            methods.put(method.getName(), method);
        }
        return methods;
    }

    private static void run(int seed, Map<String, int[]> answers) throws ReflectiveOperationException {
        random = new Random(seed);
        lane = random.nextInt(3);
        place = random.nextInt(20);
        careful = 5 + random.nextInt(60);
        PointingArms x = new PointingArms();
        Twin twin = new Twin();
        StringBuilder typed = new StringBuilder();
        asked = 0;
        while (asked < CALLS) {
            String[] calls = asked < BEGUN ? BEGINNING : CALLS_AND_KINDS;
            String[] chosen = calls[random.nextInt(calls.length)].split(" ", 2);
            String name = chosen[0];
            boolean reads = name.equals("things") || name.equals("talk");
            // These throw over what else would fill.
            if (name.matches("things|clear|restore|sheet|drop") && random.nextInt(3) > 0) {
                continue;
            }
            if (reads && typed.length() == 0 && random.nextInt(8) > 0) {
                typed.append(name.equals("things") ? thingsText() : talkText());
            }
            while (reads && typed.length() > 0 && asked < CALLS - 1) {
                ask(seed, "type", typedBytes(typed), x, twin, answers);
            }
            ask(seed, name, name.equals("type") ? anyBytes() : numbers(chosen[1]), x, twin, answers);
        }
    }

    private static void ask(int seed, String name, Object[] values, PointingArms x, Twin twin, Map<String, int[]> answers)
            throws ReflectiveOperationException {
        asked++;
        int want = (int) TWIN.get(name).invoke(twin, values);
        try {
            int got = (int) FACE.get(name).invoke(x, values);
            due.is("run " + seed + ": " + name + Arrays.toString(values), got, want);
        } catch (InvocationTargetException e) {
            due.is("run " + seed + ": " + name + Arrays.toString(values) + " threw " + e.getCause(), 1, 0);
        }
        boolean isRefused = want < 0 && !name.matches("make|at") || want < -1000;
        answers.computeIfAbsent(name, key -> new int[2])[isRefused ? 1 : 0]++;
    }

    // ---- numbers, mostly as they may be

    private static int from(int low, int high) {
        if (random.nextInt(careful) == 0) {
            int[] wrong = {low - 1, high + 1, low - 2, high + 2, Integer.MIN_VALUE, Integer.MAX_VALUE, -1, 1 << 16, 1 << 31};
            return wrong[random.nextInt(wrong.length)];
        }
        return low + random.nextInt(high - low + 1);
    }

    private static Object[] numbers(String kinds) {
        Object[] values = new Object[kinds.length()];
        for (int i = 0; i < values.length; i++) {
            values[i] = number(kinds.charAt(i));
        }
        if (kinds.equals("SLid")) {
            values[3] = aLong();
        }
        if (kinds.equals("Mxx-")) {
            values[3] = from(-1, Math.max(1, Math.min((int) values[0], 4)) - 1);
        }
        return values;
    }

    private static int number(char kind) {
        switch (kind) {
            case 'p':
                return from(0, random.nextInt(6));
            case 't':
                return from(0, random.nextInt(10));
            case 'x':
                return random.nextInt(3) == 0 ? 5 * from(0, 4) : from(0, 20);
            case 'w':
                return random.nextInt(4) > 0 ? from(place, place + random.nextInt(2)) : from(0, 20);
            case 'd':
                return random.nextInt(3) > 0 ? from(-1, 1) : from(-9, 9);
            case 'k':
                return random.nextBoolean() ? from(0, 4) : from(0, 60);
            case 's':
                return random.nextInt(3) == 0 ? from(0, 1023) : random.nextInt(4) == 0 ? 0 : 1 << random.nextInt(6);
            case 'm':
                return from(0, 4);
            case 'v':
                return random.nextBoolean() ? from(-3, 3) : from(0, 20);
            case 'g':
                return random.nextInt(6) == 0 ? -1 : from(-1, 440);
            case 'a':
                return random.nextBoolean() ? from(1, 2) : from(1, 9);
            case 'M':
                return from(1, 4);
            case 'L':
                return random.nextInt(20) > 0 ? lane : from(0, 2);
            case 'S':
                return random.nextInt(3) > 0 ? from(0, 1) : from(0, 3);
            case '-':
                return -1;
            case 'i':
                return random.nextInt(3) > 0 ? from(0, 3) : from(0, 24);
            case 'n':
                return random.nextInt(4) > 0 ? from(1, 2) : from(0, 24);
            case 'N':
                return random.nextInt(3) > 0 ? from(8, 24) : from(0, 24);
            default:
                return from(0, kind - '0');
        }
    }

    private static long aLong() {
        long small = number('d');
        int kind = random.nextInt(12);
        return kind == 0 ? random.nextLong() : kind == 1 ? small + (1L << 16) : kind == 2 ? small + (1L << 32) : small;
    }

    // ---- texts, most of them right or nearly so

    private static Object[] typedBytes(StringBuilder typed) {
        int n = Math.min(1 + random.nextInt(8), typed.length());
        // What stands above the n lowest bytes is not asked.
        long w = n < 8 ? random.nextLong() : 0;
        for (int i = 0; i < n; i++) {
            w = w << 8 | typed.charAt(i);
        }
        typed.delete(0, n);
        return new Object[] {w, n};
    }

    private static Object[] anyBytes() {
        if (random.nextInt(9) > 0) {
            return new Object[] {(long) " 0123,;+-".charAt(random.nextInt(9)), 1};
        }
        return new Object[] {random.nextLong() & 0x7F7F7F7F7F7F7F7FL | 0x2020202020202020L, from(1, 8)};
    }

    private static String thingsText() {
        StringBuilder text = new StringBuilder();
        int things = 1 + random.nextInt(random.nextInt(6) == 0 ? 7 : 5);
        for (int i = 0; i < things; i++) {
            text.append(i > 0 ? ";" : "").append(aNumber()).append(',').append(aNumber()).append(',').append(random.nextInt(6));
        }
        return spoilt(text);
    }

    private static String aNumber() {
        String[] zeros = {"", "", "", "", "0", "000"};
        int most = random.nextInt(20) == 0 ? 300 : 20;
        return zeros[random.nextInt(zeros.length)] + random.nextInt(most + 1);
    }

    private static String talkText() {
        StringBuilder text = new StringBuilder();
        int sentences = 1 + random.nextInt(random.nextInt(6) == 0 ? 7 : 5);
        for (int s = 0; s < sentences; s++) {
            int arms = 1 + random.nextInt(random.nextInt(8) == 0 ? 4 : 3);
            for (int k = 0; k < arms; k++) {
                text.append(k > 0 ? "," : s > 0 ? ";" : "").append(random.nextInt(1 + random.nextInt(4)));
                int reach = random.nextBoolean() ? 2 : 10;
                for (int axis = 0; axis < 2; axis++) {
                    int by = axis == 1 && random.nextInt(6) > 0 ? 1 + random.nextInt(reach - 1) : random.nextInt(reach);
                    text.append(random.nextBoolean() ? '+' : '-').append(by);
                }
            }
        }
        return spoilt(text);
    }

    /** Blanks here and there, and at times a byte more, less or another one. */
    private static String spoilt(StringBuilder text) {
        int blanks = random.nextInt(3) == 0 ? random.nextInt(6) : 0;
        for (int i = 0; i < blanks; i++) {
            text.insert(random.nextInt(text.length() + 1), ' ');
        }
        String signs = "0123456789,;+- x/:";
        int changes = random.nextInt(3) == 0 ? 1 + random.nextInt(2) : 0;
        for (int i = 0; i < changes && text.length() > 1; i++) {
            int place = random.nextInt(text.length());
            char sign = signs.charAt(random.nextInt(signs.length()));
            switch (random.nextInt(4)) {
                case 0:
                    text.insert(place, sign);
                    break;
                case 1:
                    text.deleteCharAt(place);
                    break;
                case 2:
                    text.setCharAt(place, sign);
                    break;
                default:
                    text.setLength(place + 1);
            }
        }
        return text.toString();
    }
}
