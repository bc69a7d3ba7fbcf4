import java.util.ArrayList;
import java.util.List;
import java.util.Random;

/** The same scenes in the class and in the model, by a fixed seed: both must answer alike. */
final class ModelTest {
    private static final Due due = new Due();
    private static final Random random = new Random(20261118);

    public static void main(String[] args) {
        due.is("the fan", Model.fan().size(), 80);
        for (int scene = 0; scene < 90; scene++) {
            for (int laws = 0; laws < 4; laws++) {
                // A new one for each: an object is good for 512 calls.
                PointingArms x = new PointingArms();
                Model model = new Model();
                fill(x, model, scene);
                model.law0 = laws & 1;
                model.law1 = laws >> 1;
                x.rule(0, model.law0);
                x.rule(1, model.law1);
                String name = "scene " + scene + " laws " + laws + ": ";
                whatIsMeant(x, model, name);
                fromWhere(x, model, name);
                markets(x, model, name);
            }
        }
        due.end();
    }

    private static int upTo(int most) {
        return random.nextInt(most + 1);
    }

    private static int[] anArm() {
        int dx = 0;
        int dy = 0;
        while (dx == 0 && dy == 0) {
            int reach = random.nextBoolean() ? 2 : 9;
            dx = upTo(2 * reach) - reach;
            dy = upTo(2 * reach) - reach;
        }
        return new int[] {dx, dy};
    }

    private static void fill(PointingArms x, Model model, int scene) {
        // Small grounds and lattices give ties and touched ones; wide ones give single meanings.
        int step = scene % 3 == 0 ? 5 : scene % 3 == 1 ? 2 : 1;
        int broad = scene % 4 == 0 ? 5 : scene % 4 == 1 ? 0 : 2;
        int things = 1 + upTo(9);
        for (int i = 0; i < things; i++) {
            int[] t = {step * upTo(20 / step), step * upTo(20 / step), upTo(broad), upTo(6) - 3, upTo(6) - 3};
            due.is("thing", x.thing(t[0], t[1], t[2]), i);
            x.make(i, 3, t[3]);
            x.make(i, 4, t[4]);
            model.things.add(t);
        }
        for (int i = 0; i < 4; i++) {
            int[] p = {step * upTo(20 / step), step * upTo(20 / step)};
            due.is("person", x.person(p[0], p[1]), i);
            model.people.add(p);
        }
        int stalls = upTo(8);
        for (int i = 0; i < stalls; i++) {
            int[] s = {step * upTo(20 / step), step * upTo(20 / step)};
            due.is("stall", x.stall(s[0], s[1]), i);
            model.stalls.add(s);
        }
        tellTalk(x, model);
    }

    private static void tellTalk(PointingArms x, Model model) {
        StringBuilder text = new StringBuilder();
        int sentences = 1 + upTo(5);
        for (int s = 0; s < sentences; s++) {
            List<int[]> sentence = new ArrayList<>();
            int arms = 1 + upTo(text.length() > 60 ? 0 : 2);
            for (int k = 0; k < arms; k++) {
                int[] arm = anArm();
                int who = upTo(3);
                sentence.add(new int[] {who, arm[0], arm[1]});
                text.append(k > 0 ? "," : s > 0 ? ";" : "").append(who);
                text.append(arm[0] < 0 ? '-' : '+').append(Math.abs(arm[0]));
                text.append(arm[1] < 0 ? '-' : '+').append(Math.abs(arm[1]));
            }
            model.talk.add(sentence);
        }
        due.is("talk", Due.talk(x, text.toString()), sentences);
    }

    private static void whatIsMeant(PointingArms x, Model m, String name) {
        for (int i = 0; i < 12; i++) {
            int[] d = anArm();
            int[] e = anArm();
            int p = upTo(3);
            int q = upTo(3);
            int tick = i % 2 == 0 ? upTo(4) : upTo(60);
            int px = upTo(20);
            int py = upTo(20);
            due.is(name + "meets", x.meets(px, py, d[0], d[1]), m.met(m.things, new int[] {px, py}, d, 0));
            due.is(name + "means", x.means(p, d[0], d[1], tick), m.means(p, d[0], d[1], tick));
            int together = m.meaning(m.things, List.of(m.people.get(p), m.people.get(q)), List.of(d, e), 0);
            due.is(name + "both", x.both(p, d[0], d[1], q, e[0], e[1]), together);
            due.is(name + "dark", x.dark(tick), m.dark(tick));
            int sentence = upTo(m.talk.size() - 1);
            due.is(name + "says", x.says(sentence, tick), m.says(sentence, tick));
            int thing = upTo(m.things.size() - 1);
            due.is(name + "when", x.when(p, d[0], d[1], thing), m.when(p, d[0], d[1], thing));
            int misread = p == q ? -1 : m.means(q, d[0], d[1], 0);
            due.is(name + "misread", x.misread(p, d[0], d[1], q), misread);
            int bargain = p == q ? -1 : m.bargain(p, d[0], d[1], q, e[0], e[1]);
            due.is(name + "bargain", x.bargain(p, d[0], d[1], q, e[0], e[1]), bargain);
        }
    }

    private static void fromWhere(PointingArms x, Model m, String name) {
        int thing = upTo(m.things.size() - 1);
        due.is(name + "ground", x.ground(thing, -1), m.ground(thing, -1));
        for (int i = 0; i < 4; i++) {
            int px = upTo(20);
            int py = upTo(20);
            int k = 21 * py + px;
            due.is(name + "ground k", x.ground(thing, k), m.ground(thing, k));
            due.is(name + "share above", x.share(thing, px, py, 0), m.share(thing, px, py, 0));
            due.is(name + "share below", x.share(thing, px, py, 1), m.share(thing, px, py, 1));
            int all = (1 << m.things.size()) - 1;
            int set = i == 0 ? all : 1 + random.nextInt(all);
            due.is(name + "fewest " + set, x.fewest(set, px, py), m.fewest(set, px, py));
            int few = 1 << thing | 1 << upTo(m.things.size() - 1);
            int arms = 1 + upTo(2);
            due.is(name + "aside " + few, x.aside(few, px, py, arms), m.aside(few, px, py, arms));
        }
        m.told.clear();
        PointingArms told = x;
        told.image();
        told.clear();
        int px = upTo(20);
        int py = upTo(20);
        for (int i = 1; i <= 4; i++) {
            int[] d = anArm();
            int set = upTo(9) == 0 ? 0 : m.meaning(m.things, new int[] {px, py}, d, 0);
            due.is(name + "meant", told.meant(d[0], d[1], set), i);
            m.told.add(new int[] {d[0], d[1], set});
            for (int what = 0; what <= 2; what++) {
                due.is(name + "stood " + what, told.stood(what), m.stood(what));
            }
        }
        told.restore();
    }

    private static void markets(PointingArms x, Model m, String name) {
        for (int n = 1; n <= 4; n++) {
            int px = upTo(20);
            int py = upTo(20);
            for (int k = -1; k < n; k++) {
                due.is(name + "market " + n + " " + k, x.market(n, px, py, k), m.market(n, px, py, k));
            }
        }
    }
}
