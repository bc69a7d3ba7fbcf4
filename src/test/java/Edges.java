import java.lang.reflect.InvocationTargetException;
import java.lang.reflect.Method;
import java.util.ArrayList;
import java.util.Comparator;
import java.util.List;

/**
 * What the tests of boundary cases share. Each test is a method named by its promise; runAll runs all of a class
 * and asks that each promise of its part has some.
 */
abstract class Edges {
    static final int BAD = -1, NOT = -2, FULL = -3, NONE = -4;
    static final int NULL = -11, CAST = -12, INDEX = -13, SIZE = -14;
    static final int LESS_BAD = -100001;
    static final int LOWEST = Integer.MIN_VALUE, HIGHEST = Integer.MAX_VALUE;
    static final Due due = new Due();
    private static String test = "";

    interface Making {
        void on(PointingArms x);
    }

    interface Asking {
        int on(PointingArms x);
    }

    /** A call with one of its numbers left open. */
    interface Open {
        int on(PointingArms x, int v);
    }

    static void runAll(Class<?> tests, int first, int last) throws IllegalAccessException {
        List<Method> all = new ArrayList<>();
        for (Method method : tests.getDeclaredMethods()) {
            if (method.getName().startsWith("promise") && method.getParameterCount() == 0) {
                all.add(method);
            }
        }
        all.sort(Comparator.comparing(Method::getName));
        int[] perPromise = new int[36];
        for (Method method : all) {
            test = method.getName();
            perPromise[Integer.parseInt(test.substring(7, 9))]++;
            try {
                method.invoke(null);
            } catch (InvocationTargetException e) {
                is("threw " + e.getCause(), 1, 0);
            }
        }
        for (int promise = first; promise <= last; promise++) {
            is("promise " + promise + " has tests", perPromise[promise] > 0 ? 1 : 0, 1);
        }
        System.out.println(all.size() + " tests");
        due.end();
    }

    static void is(String call, long got, long want) {
        due.is(test + ": " + call, got, want);
    }

    // ---- that a call changes nothing

    /** The answer is due; and whatever is asked behind it is answered as if the call had not been. */
    static void leaves(Making made, String call, Asking asked, int want) {
        for (int part = 0; part < Probe.PARTS; part++) {
            PointingArms x = new PointingArms();
            made.on(x);
            is(call, asked.on(x), want);
            alike(call + " leaves all as it was", part, x, made);
        }
    }

    /** A part of an object is as that of one made so. */
    static void alike(String call, int part, PointingArms x, Making made) {
        PointingArms twin = new PointingArms();
        made.on(twin);
        List<Integer> got = Probe.answers(x, part);
        List<Integer> want = Probe.answers(twin, part);
        for (int i = 0; i < got.size(); i++) {
            is(call + ": part " + part + ", answer " + i, got.get(i), want.get(i));
        }
    }

    /** In the herd: the answer is due, and nothing changes. */
    static void same(String call, Asking asked, int want) {
        leaves(Edges::herd, call, asked, want);
    }

    /** In the herd: the numbers beside low .. high, near and far, are refused, and nothing changes. */
    static void refusedBeside(String call, int low, int high, Open open, int want) {
        for (int v : new int[] {low - 1, high + 1, LOWEST, HIGHEST}) {
            same(call + " of " + v, x -> open.on(x, v), want);
        }
    }

    /** In the herd, for calls that change nothing: low and high are answered, all beside them BAD. */
    static void answeredFrom(String call, int low, int high, Open open) {
        for (int v : new int[] {low, high}) {
            PointingArms x = herd();
            is(call + " of " + v + " is not bad", open.on(x, v) == BAD ? 1 : 0, 0);
        }
        refusedBeside(call, low, high, open, BAD);
    }

    /** In the herd, for calls that change nothing: an arm is -9 .. 9 each, not both 0; all else is refused. */
    static void answeredForArms(String call, ArmCall open) {
        int[][] arms = {{9, 9}, {-9, -9}, {9, -9}, {-9, 9}, {9, 0}, {0, 9}, {-9, 0}, {0, -9}, {1, 0}, {0, 1}, {-1, 0}, {0, -1}};
        for (int[] arm : arms) {
            is(call + " by " + arm[0] + ", " + arm[1] + " is not bad", open.on(herd(), arm[0], arm[1]) == BAD ? 1 : 0, 0);
        }
        refusedForNoArms(call, open);
    }

    /** In the herd: what is no arm is BAD, and nothing changes. */
    static void refusedForNoArms(String call, ArmCall open) {
        int[][] none = {{0, 0}, {10, 9}, {-10, 9}, {9, 10}, {9, -10}, {10, 0}, {0, 10}, {-10, 0}, {0, -10},
            {LOWEST, 1}, {HIGHEST, 1}, {1, LOWEST}, {1, HIGHEST}, {LOWEST, LOWEST}};
        for (int[] arm : none) {
            same(call + " by " + arm[0] + ", " + arm[1], x -> open.on(x, arm[0], arm[1]), BAD);
        }
    }

    interface ArmCall {
        int on(PointingArms x, int dx, int dy);
    }

    // ---- scenes

    static PointingArms with(String things) {
        PointingArms x = new PointingArms();
        Due.things(x, things);
        return x;
    }

    /**
     * Two in a row that change places a tick from now (v 3) or did so a tick ago (v -3), by law the first is meant:
     * what is asked for tick 0 must not be answered for another one.
     */
    static PointingArms crossing(int v) {
        PointingArms x = with("5,10,0;8,10,0");
        x.make(0, 3, v);
        x.make(1, 3, -v);
        x.rule(0, 1);
        x.person(0, 10);
        x.person(0, 10);
        return x;
    }

    static final int[] CROSSINGS = {3, -3};

    static PointingArms herd() {
        PointingArms x = new PointingArms();
        herd(x);
        return x;
    }

    /** Five things that go, four people, a talk, stalls, told ones, sheets, a tape, and an unlike image. */
    static void herd(PointingArms x) {
        Due.things(x, "3,3,1;7,7,0");
        x.person(1, 2);
        Due.talk(x, "0+1+1");
        x.stall(4, 4);
        x.meant(0, 1, 1);
        x.rule(0, 1);
        x.rule(1, 0);
        x.image();
        x.clear();
        x.rule(0, 0);
        x.rule(1, 1);
        Due.things(x, "10,10,2;15,10,1;10,16,0;3,10,3;18,18,1");
        x.make(0, 3, 1);
        x.make(1, 4, -1);
        x.make(2, 3, 1);
        x.make(2, 4, -1);
        x.make(3, 3, -2);
        x.make(4, 4, -3);
        x.walk(0, 0, 10);
        x.person(20, 20);
        x.person(10, 0);
        x.person(10, 9);
        Due.talk(x, "0+1+0;0+5+1,2+0+1;1-1-1;2+0+9;0+2+1,1-9-9,2+0+1");
        x.stall(5, 5);
        x.stall(10, 10);
        x.stall(15, 5);
        x.meant(1, 0, 1);
        rows(x);
        Due.type(x, "1,2,3");
    }

    /** Sheets: shorts, ints, longs, and nothing. */
    private static void rows(PointingArms x) {
        x.sheet(0, 0, 4);
        x.item(0, 0, 0, 5);
        x.item(0, 0, 1, 1);
        x.item(0, 0, 2, 1);
        x.sheet(1, 1, 6);
        x.item(1, 1, 0, 5);
        x.item(1, 1, 1, 1);
        x.item(1, 1, 2, -1);
        x.item(1, 1, 3, 1);
        x.sheet(2, 2, 2);
        x.item(2, 2, 0, 9);
        x.item(2, 2, 1, -9);
    }

    static PointingArms full() {
        PointingArms x = new PointingArms();
        full(x);
        return x;
    }

    /** As much of everything as there may be. */
    static void full(PointingArms x) {
        for (int i = 0; i < 10; i++) {
            x.thing(2 * i, 20 - i, i % 6);
        }
        for (int i = 0; i < 6; i++) {
            x.person(3 * i, 10);
        }
        Due.talk(x, FULLEST_TALK);
        for (int i = 0; i < 8; i++) {
            x.stall(2 * i, 5);
        }
        for (int i = 1; i <= 4; i++) {
            x.meant(-i, 1, i);
        }
        x.image();
        for (int i = 0; i < 4; i++) {
            x.sheet(i, i % 3, 24);
        }
        for (int i = 0; i < 12; i++) {
            x.type(0x2020202020202020L, 8);
        }
        x.type(0x20202020L, 4);
    }

    private static final String THREE = "0+1+0,1-1+0,5+0+1";
    /** Of 100 bytes no more than 16 arms can be told. */
    static final String FULLEST_TALK = THREE + ";" + THREE + ";" + THREE + ";" + THREE + ";" + THREE + ";2+9-9";

    static String times(String text, int n) {
        StringBuilder all = new StringBuilder();
        for (int i = 0; i < n; i++) {
            all.append(text);
        }
        return all.toString();
    }
}
