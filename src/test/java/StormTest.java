import java.lang.management.ManagementFactory;
import java.lang.reflect.InvocationTargetException;
import java.lang.reflect.Method;
import java.lang.reflect.Modifier;
import java.util.ArrayList;
import java.util.Comparator;
import java.util.List;
import java.util.Random;

/** Any calls with any numbers in any state: none may throw, and no call may make an object. */
final class StormTest {
    private static final int[] EDGES = {Integer.MIN_VALUE, Integer.MIN_VALUE + 1, -100, -10, -2, -1, 0, 1, 2, 3, 4, 5, 6,
        9, 10, 20, 21, 24, 25, 60, 61, 440, 441, 1023, 1024, Integer.MAX_VALUE - 1, Integer.MAX_VALUE};
    private static final Random random = new Random(35);
    private static final Due due = new Due();

    public static void main(String[] args) throws IllegalAccessException {
        List<Method> calls = new ArrayList<>();
        for (Method method : PointingArms.class.getDeclaredMethods()) {
            if (Modifier.isPublic(method.getModifiers())) {
                calls.add(method);
            }
        }
        calls.sort(Comparator.comparing(Method::getName));
        due.is("calls of the face", calls.size(), 34);
        for (int run = 0; run < 1500; run++) {
            storm(calls, run);
        }
        room();
        due.end();
    }

    private static void storm(List<Method> calls, int run) throws IllegalAccessException {
        PointingArms x = new PointingArms();
        for (int call = 0; call < 512; call++) {
            if (random.nextInt(20) == 0) {
                Due.type(x, aText());
            }
            Method method = calls.get(random.nextInt(calls.size()));
            Object[] values = new Object[method.getParameterCount()];
            for (int i = 0; i < values.length; i++) {
                boolean isLong = method.getParameterTypes()[i] == long.class;
                values[i] = isLong ? (Object) aLong() : (Object) anInt();
            }
            try {
                method.invoke(x, values);
            } catch (InvocationTargetException e) {
                due.is("run " + run + ": " + method.getName() + " threw " + e.getCause(), 1, 0);
            }
        }
    }

    private static String aText() {
        String signs = "0123456,,;;+-  ";
        StringBuilder text = new StringBuilder();
        int length = random.nextInt(40);
        for (int i = 0; i < length; i++) {
            text.append(signs.charAt(random.nextInt(signs.length())));
        }
        String[] good = {"1,2,3", "10,10,5;3,3,0;7,8,1", "0+1+1", "0+1-1,0-1-1;0+9+9", text.toString()};
        return good[random.nextInt(good.length)];
    }

    private static int anInt() {
        return random.nextInt(4) == 0 ? EDGES[random.nextInt(EDGES.length)] : random.nextInt(8) - 1;
    }

    private static long aLong() {
        return random.nextInt(3) == 0 ? random.nextLong() : random.nextInt(128);
    }

    /** The dearest calls, all 512 on one object, make nothing. */
    private static void room() {
        PointingArms x = new PointingArms();
        for (int i = 0; i < 10; i++) {
            x.thing(2 * i, (7 * i + 3) % 21, i % 3);
        }
        for (int i = 0; i < 8; i++) {
            x.stall(2 * i, (5 * i + 1) % 21);
        }
        x.person(0, 0);
        x.image();
        dear(x, 20);
        com.sun.management.ThreadMXBean bean = (com.sun.management.ThreadMXBean) ManagementFactory.getThreadMXBean();
        long self = Thread.currentThread().getId();
        bean.getThreadAllocatedBytes(self);
        long before = bean.getThreadAllocatedBytes(self);
        dear(x, 50);
        long made = bean.getThreadAllocatedBytes(self) - before;
        due.is("bytes made by 500 calls: " + made + "; few", made < 20000 ? 1 : 0, 1);
    }

    private static void dear(PointingArms x, int rounds) {
        for (int i = 0; i < rounds; i++) {
            x.aside(1023, 10, 10, 1);
            x.ground(i % 10, -1);
            x.market(4, 10, 10, -1);
            x.stood(0);
            x.type(0x302B312B31L, 5);
            x.talk();
            x.sheet(i % 4, i % 3, 24);
            x.restore();
            x.type(0x312C312C31L, 5);
            x.restore();
            x.talk();
        }
    }
}
