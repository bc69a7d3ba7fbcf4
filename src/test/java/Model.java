import java.util.ArrayList;
import java.util.List;

/**
 * A second reading of the document's terms, by the plainest search and without any shortcut of the
 * class under test: points, things and arms as small rows, fractions as they stand.
 */
final class Model {
    final List<int[]> things = new ArrayList<>();
    final List<int[]> people = new ArrayList<>();
    final List<List<int[]>> talk = new ArrayList<>();
    final List<int[]> stalls = new ArrayList<>();
    final List<int[]> told = new ArrayList<>();
    int law0 = 0;
    int law1 = 1;

    static List<int[]> fan() {
        List<int[]> fan = new ArrayList<>();
        for (int dy = -5; dy <= 5; dy++) {
            for (int dx = -5; dx <= 5; dx++) {
                if (gcd(Math.abs(dx), Math.abs(dy)) == 1) {
                    fan.add(new int[] {dx, dy});
                }
            }
        }
        return fan;
    }

    static int gcd(int a, int b) {
        return b == 0 ? a : gcd(b, a % b);
    }

    private static long e(int[] thing, int[] point, int[] arm, int tick) {
        long a = thing[0] + (long) thing[3] * tick - point[0];
        long b = thing[1] + (long) thing[4] * tick - point[1];
        return a * arm[0] + b * arm[1];
    }

    private boolean isMet(int[] thing, int[] point, int[] arm, int tick) {
        long a = thing[0] + (long) thing[3] * tick - point[0];
        long b = thing[1] + (long) thing[4] * tick - point[1];
        long f = a * arm[1] - b * arm[0];
        long breadth = thing[2];
        if (a * a + b * b <= breadth * breadth) {
            return false;
        }
        if (e(thing, point, arm, tick) <= 0) {
            return false;
        }
        long limit = breadth * breadth * ((long) arm[0] * arm[0] + (long) arm[1] * arm[1]);
        return law1 == 1 ? f * f <= limit : f * f < limit;
    }

    int met(List<int[]> all, int[] point, int[] arm, int tick) {
        int set = 0;
        for (int i = 0; i < all.size(); i++) {
            if (isMet(all.get(i), point, arm, tick)) {
                set += 1 << i;
            }
        }
        return set;
    }

    /** points and arms: those held out together. */
    int meaning(List<int[]> all, List<int[]> points, List<int[]> arms, int tick) {
        List<Integer> left = new ArrayList<>();
        for (int i = 0; i < all.size(); i++) {
            boolean byAll = true;
            for (int k = 0; k < arms.size(); k++) {
                byAll &= (met(all, points.get(k), arms.get(k), tick) >> i & 1) == 1;
            }
            if (byAll) {
                left.add(i);
            }
        }
        if (law0 == 1 && left.size() > 1) {
            left.sort((p, q) -> {
                long one = e(all.get(p), points.get(0), arms.get(0), tick);
                long other = e(all.get(q), points.get(0), arms.get(0), tick);
                return one != other ? Long.compare(one, other) : p - q;
            });
            left = left.subList(0, 1);
        }
        int set = 0;
        for (int i : left) {
            set |= 1 << i;
        }
        return set;
    }

    int meaning(List<int[]> all, int[] point, int[] arm, int tick) {
        return meaning(all, List.of(point), List.of(arm), tick);
    }

    int means(int person, int dx, int dy, int tick) {
        return meaning(things, people.get(person), new int[] {dx, dy}, tick);
    }

    int says(int sentence, int tick) {
        List<int[]> points = new ArrayList<>();
        List<int[]> arms = new ArrayList<>();
        for (int[] arm : talk.get(sentence)) {
            points.add(people.get(arm[0]));
            arms.add(new int[] {arm[1], arm[2]});
        }
        return meaning(things, points, arms, tick);
    }

    int dark(int tick) {
        int set = 0;
        for (int i = 0; i < talk.size(); i++) {
            if (Integer.bitCount(says(i, tick)) != 1) {
                set |= 1 << i;
            }
        }
        return set;
    }

    int when(int person, int dx, int dy, int thing) {
        for (int tick = 0; tick <= 60; tick++) {
            if (means(person, dx, dy, tick) == 1 << thing) {
                return tick;
            }
        }
        return -4;
    }

    int bargain(int p, int dx, int dy, int q, int ex, int ey) {
        int first = means(p, dx, dy, 0);
        int second = means(q, ex, ey, 0);
        if (Integer.bitCount(first) != 1 || Integer.bitCount(second) != 1 || first == second) {
            return -2;
        }
        if (means(q, dx, dy, 0) != first || means(p, ex, ey, 0) != second) {
            return -2;
        }
        int answer = 0;
        for (int i = 0; i < 10; i++) {
            answer += first == 1 << i ? 10 * i : 0;
            answer += second == 1 << i ? i : 0;
        }
        return answer;
    }

    int arms(List<int[]> all, int thing, int x, int y) {
        int arms = 0;
        for (int[] arm : fan()) {
            if (meaning(all, new int[] {x, y}, arm, 0) == 1 << thing) {
                arms++;
            }
        }
        return arms;
    }

    int share(int thing, int x, int y, int part) {
        int arms = arms(things, thing, x, y);
        return (part == 0 ? arms : 80) / gcd(arms, 80);
    }

    int ground(int thing, int k) {
        if (k >= 0) {
            return arms(things, thing, k % 21, k / 21) > 0 ? 1 : 0;
        }
        int points = 0;
        for (int i = 0; i < 441; i++) {
            points += ground(thing, i);
        }
        return points;
    }

    /** Goes by the thing with the lowest number that is still wanted: some arm must mean it. */
    private static int cover(List<Integer> usable, int want, int allowed) {
        if (want == 0) {
            return 0;
        }
        if (allowed == 0) {
            return 1000;
        }
        int best = 1000;
        for (int meaning : usable) {
            if ((meaning & Integer.lowestOneBit(want)) != 0) {
                best = Math.min(best, 1 + cover(usable, want & ~meaning, allowed - 1));
            }
        }
        return best;
    }

    int fewest(int set, int x, int y) {
        List<Integer> usable = new ArrayList<>();
        for (int[] arm : fan()) {
            int meaning = meaning(things, new int[] {x, y}, arm, 0);
            if (meaning != 0 && (meaning | set) == set && !usable.contains(meaning)) {
                usable.add(meaning);
            }
        }
        for (int allowed = 1; allowed <= 10; allowed++) {
            if (cover(usable, set, allowed) <= allowed) {
                return allowed;
            }
        }
        return -4;
    }

    int aside(int set, int x, int y, int arms) {
        int best = -4;
        int bestFar = 7;
        for (int py = 0; py <= 20; py++) {
            for (int px = 0; px <= 20; px++) {
                int far = Math.abs(px - x) + Math.abs(py - y);
                if (far < bestFar) {
                    int fewest = fewest(set, px, py);
                    if (fewest > 0 && fewest <= arms) {
                        bestFar = far;
                        best = 100 * px + py;
                    }
                }
            }
        }
        return best;
    }

    int stood(int what) {
        List<int[]> points = new ArrayList<>();
        for (int y = 0; y <= 20; y++) {
            for (int x = 0; x <= 20; x++) {
                boolean fits = true;
                for (int[] one : told) {
                    fits &= meaning(things, new int[] {x, y}, new int[] {one[0], one[1]}, 0) == one[2];
                }
                if (fits) {
                    points.add(new int[] {x, y});
                }
            }
        }
        if (what == 0) {
            return points.size();
        }
        return points.isEmpty() ? -4 : points.get(0)[what - 1];
    }

    private int bestWays;
    private List<Integer> bestRow;

    int market(int n, int x, int y, int k) {
        if (things.size() < n || stalls.size() < n) {
            return -2;
        }
        bestWays = Integer.MAX_VALUE;
        bestRow = null;
        lay(n, x, y, new ArrayList<>());
        if (bestRow == null) {
            return -4;
        }
        return k < 0 ? bestWays : bestRow.get(k);
    }

    private void lay(int n, int x, int y, List<Integer> row) {
        if (row.size() < n) {
            for (int stall = 0; stall < stalls.size(); stall++) {
                if (!row.contains(stall)) {
                    row.add(stall);
                    lay(n, x, y, row);
                    row.remove(row.size() - 1);
                }
            }
            return;
        }
        List<int[]> laid = new ArrayList<>();
        int ways = 0;
        for (int i = 0; i < n; i++) {
            int[] stall = stalls.get(row.get(i));
            laid.add(new int[] {stall[0], stall[1], things.get(i)[2], 0, 0});
            ways += Math.abs(stall[0] - x) + Math.abs(stall[1] - y);
        }
        if (ways >= bestWays) {
            return;
        }
        for (int i = 0; i < n; i++) {
            if (arms(laid, i, x, y) == 0) {
                return;
            }
        }
        bestWays = ways;
        bestRow = new ArrayList<>(row);
    }
}
