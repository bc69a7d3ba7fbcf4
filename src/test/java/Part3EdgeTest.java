/** Boundary cases of promises 20 to 30: from where, how many; markets; images. */
final class Part3EdgeTest extends Edges {
    public static void main(String[] args) throws IllegalAccessException {
        runAll(Part3EdgeTest.class, 20, 30);
    }

    private static void answeredAtPoints(String call, ArmCall open) {
        answeredFrom(call + " x", 0, 20, (x, v) -> open.on(x, v, 7));
        answeredFrom(call + " y", 0, 20, (x, v) -> open.on(x, 7, v));
    }

    /** Ten things of breadth 0 round the middle, each by another arm of the fan. */
    private static PointingArms star() {
        PointingArms x = new PointingArms();
        int[][] arms = {{5, 0}, {-5, 0}, {0, 5}, {0, -5}, {5, 5}, {-5, 5}, {5, -5}, {-5, -5}, {5, 1}, {1, 5}};
        for (int[] arm : arms) {
            x.thing(10 + arm[0], 10 + arm[1], 0);
        }
        return x;
    }

    // ---- 20 share

    static void promise20_the_thing_must_be_there() {
        answeredFrom("thing", 0, 4, (x, v) -> x.share(v, 0, 10, 1));
        is("none at all", new PointingArms().share(0, 0, 0, 0), BAD);
        is("the last of ten", star().share(9, 10, 10, 0), 1);
        is("beyond ten", star().share(10, 10, 10, 0), BAD);
    }

    static void promise20_it_is_from_a_point() {
        answeredAtPoints("share", (x, px, py) -> x.share(0, px, py, 1));
    }

    static void promise20_part_is_0_or_1() {
        same("above", x -> x.share(0, 0, 10, 0), 1);
        same("below", x -> x.share(0, 0, 10, 1), 40);
        refusedBeside("part", 0, 1, (x, v) -> x.share(0, 0, 10, v), BAD);
    }

    static void promise20_none_is_0_of_1() {
        same("on it, above", x -> x.share(0, 10, 10, 0), 0);
        same("on it, below", x -> x.share(0, 10, 10, 1), 1);
        PointingArms x = with("1,7,0");
        is("no arm goes there", x.share(0, 0, 0, 0), 0);
        is("no arm goes there, below", x.share(0, 0, 0, 1), 1);
    }

    static void promise20_the_fan_has_80_arms() {
        PointingArms x = with("15,10,0");
        is("one", x.share(0, 10, 10, 0), 1);
        is("of 80", x.share(0, 10, 10, 1), 80);
    }

    /** A thing of breadth 0, seen from 10, 10 by each dx, dy in turn: by one arm if it is in the fan, else by none. */
    static void promise20_the_fan_goes_from_minus_5_to_5() {
        PointingArms x = with("0,0,0");
        for (int[] arm : new int[][] {{5, 4}, {-5, 4}, {4, 5}, {4, -5}, {-5, -4}, {-4, -5}, {5, 1}, {1, -5}}) {
            x.make(0, 0, 10 + arm[0]);
            x.make(0, 1, 10 + arm[1]);
            is(arm[0] + ", " + arm[1], x.share(0, 10, 10, 0), 1);
        }
        for (int[] arm : new int[][] {{6, 5}, {-6, 5}, {5, 6}, {5, -6}, {-6, -5}, {-5, -6}, {6, 1}, {1, -6}, {7, 2}}) {
            x.make(0, 0, 10 + arm[0]);
            x.make(0, 1, 10 + arm[1]);
            is(arm[0] + ", " + arm[1], x.share(0, 10, 10, 0), 0);
        }
    }

    static void promise20_of_one_direction_the_fan_has_one_arm() {
        PointingArms x = with("20,10,0");
        for (int[] place : new int[][] {{20, 10}, {0, 10}, {10, 20}, {10, 0}, {20, 20}, {0, 0}, {18, 14}, {6, 2}}) {
            x.make(0, 0, place[0]);
            x.make(0, 1, place[1]);
            is("to " + place[0] + ", " + place[1], x.share(0, 10, 10, 0), 1);
            is("to " + place[0] + ", " + place[1] + ", below", x.share(0, 10, 10, 1), 80);
        }
    }

    static void promise20_the_fraction_is_in_lowest_terms() {
        boolean[] seen = new boolean[81];
        for (int breadth = 1; breadth <= 5; breadth++) {
            PointingArms x = with("10,10," + breadth);
            Model model = new Model();
            model.things.add(new int[] {10, 10, breadth, 0, 0});
            for (int px = 0; px <= 20; px++) {
                for (int py = 8; py <= 10; py++) {
                    int arms = model.arms(model.things, 0, px, py);
                    int divisor = Model.gcd(arms, 80);
                    seen[divisor] = true;
                    is("above for " + arms, x.share(0, px, py, 0), arms / divisor);
                    is("below for " + arms, x.share(0, px, py, 1), 80 / divisor);
                }
            }
        }
        for (int divisor : new int[] {1, 2, 4, 5, 8, 10, 16, 80}) {
            is("a fraction was cut by " + divisor, seen[divisor] ? 1 : 0, 1);
        }
    }

    static void promise20_just_it_is_meant_by_these_arms() {
        PointingArms x = with("15,10,0;18,10,0");
        is("two in a row", x.share(0, 10, 10, 0), 0);
        x.rule(0, 1);
        is("by law the first", x.share(0, 10, 10, 0), 1);
        is("by law the hind one", x.share(1, 10, 10, 0), 0);
    }

    static void promise20_ahead_is_the_lesser_e_and_of_like_ones_the_lesser_number() {
        PointingArms x = with("18,10,0;15,10,0");
        x.rule(0, 1);
        is("a lesser number, but farther", x.share(0, 10, 10, 0), 0);
        is("nearer", x.share(1, 10, 10, 0), 1);
        x.make(0, 0, 15);
        is("as near, a lesser number", x.share(0, 10, 10, 0), 1);
        is("as near, a greater number", x.share(1, 10, 10, 0), 0);
        x.make(0, 0, 16);
        is("just farther", x.share(0, 10, 10, 0), 0);
        x.make(0, 0, 14);
        is("just nearer", x.share(0, 10, 10, 0), 1);
        is("just behind", x.share(1, 10, 10, 0), 0);
    }

    static void promise20_it_is_tick_0() {
        PointingArms x = with("10,10,0");
        x.make(0, 3, 3);
        is("on it at tick 0", x.share(0, 10, 10, 0), 0);
        for (int v : CROSSINGS) {
            is("the first of two", crossing(v).share(0, 0, 10, 0), 1);
            is("the hind one", crossing(v).share(1, 0, 10, 0), 0);
        }
    }

    // ---- 21 ground

    static void promise21_k_is_minus_1_to_440() {
        same("all", x -> x.ground(0, -1), 388);
        same("the first", x -> x.ground(0, 0), 1);
        same("the last", x -> x.ground(0, 440), 0);
        same("the last, of another", x -> x.ground(4, 440), 1);
        refusedBeside("k", -1, 440, (x, v) -> x.ground(0, v), BAD);
    }

    static void promise21_the_thing_must_be_there() {
        answeredFrom("thing", 0, 4, (x, v) -> x.ground(v, 0));
        answeredFrom("thing", 0, 4, (x, v) -> x.ground(v, -1));
        is("none at all", new PointingArms().ground(0, -1), BAD);
    }

    static void promise21_k_is_21_times_y_and_x() {
        PointingArms x = with("20,0,5");
        is("15, 0 is on its edge", x.ground(0, 15), 0);
        is("14, 0 is beside it", x.ground(0, 14), 1);
        is("20, 5 is on its edge", x.ground(0, 21 * 5 + 20), 0);
        is("20, 6 is beside it", x.ground(0, 21 * 6 + 20), 1);
        is("0, 1", x.ground(0, 21), 1);
    }

    static void promise21_there_may_be_none() {
        PointingArms x = with("10,10,0");
        x.rule(1, 0);
        is("of breadth 0 without touched ones", x.ground(0, -1), 0);
        is("some point", x.ground(0, 0), 0);
    }

    static void promise21_as_many_as_say_so() {
        PointingArms x = with("10,10,0;14,10,2");
        int points = 0;
        for (int k = 0; k <= 440; k++) {
            points += x.ground(1, k);
        }
        is("all", x.ground(1, -1), points);
    }

    /** From 10, 10 a thing of breadth 0 at each dx, dy of -10 .. 10 in turn. */
    static void promise21_by_each_arm_of_the_fan_and_by_no_other() {
        int met = 0;
        for (int dy = -10; dy <= 10; dy++) {
            PointingArms x = with("0,0,0");
            for (int dx = -10; dx <= 10; dx++) {
                x.make(0, 0, 10 + dx);
                x.make(0, 1, 10 + dy);
                int divisor = Math.max(1, Model.gcd(Math.abs(dx), Math.abs(dy)));
                boolean isInFan = Math.max(Math.abs(dx), Math.abs(dy)) / divisor <= 5 && (dx != 0 || dy != 0);
                met += isInFan && divisor == 1 ? 1 : 0;
                is("ground at " + dx + ", " + dy, x.ground(0, 220), isInFan ? 1 : 0);
                is("share at " + dx + ", " + dy, x.share(0, 10, 10, 0), isInFan ? 1 : 0);
                is("fewest at " + dx + ", " + dy, x.fewest(1, 10, 10), isInFan ? 1 : NONE);
            }
        }
        is("arms of the fan", met, 80);
    }

    static void promise21_it_is_tick_0() {
        for (int v : CROSSINGS) {
            is("the first of two", crossing(v).ground(0, 210), 1);
            is("the hind one", crossing(v).ground(1, 210), 0);
        }
    }

    static void promise21_alone_is_not_with_another() {
        PointingArms x = with("10,10,0;15,10,0");
        is("both in a row", x.ground(0, 21 * 10), 0);
        is("between them", x.ground(0, 21 * 10 + 12), 1);
        is("beside them", x.ground(0, 21 * 9 + 9), 1);
    }

    // ---- 22 fewest

    static void promise22_the_set_is_not_empty_and_of_things_that_are_there() {
        answeredFrom("set", 1, 31, (x, v) -> x.fewest(v, 10, 0));
        is("all of ten", star().fewest(1023, 10, 10), 10);
        is("the last of ten", star().fewest(512, 10, 10), 1);
        is("beyond ten", star().fewest(1024, 10, 10), BAD);
        is("with one beyond ten", star().fewest(1025, 10, 10), BAD);
        is("of nothing there", new PointingArms().fewest(1, 10, 10), BAD);
        is("of one there", with("1,1,1").fewest(2, 10, 10), BAD);
    }

    static void promise22_it_is_from_a_point() {
        answeredAtPoints("fewest", (x, px, py) -> x.fewest(1, px, py));
    }

    static void promise22_none_is_known() {
        same("on it", x -> x.fewest(1, 10, 10), NONE);
        same("one of them can't be meant", x -> x.fewest(31, 0, 10), NONE);
        same("three", x -> x.fewest(31, 10, 0), 3);
    }

    static void promise22_an_arm_that_means_another_too_is_not_taken() {
        PointingArms x = with("5,10,0;8,10,0");
        is("both", x.fewest(3, 0, 10), 1);
        is("the first", x.fewest(1, 0, 10), NONE);
        is("the hind one", x.fewest(2, 0, 10), NONE);
    }

    static void promise22_by_law_0_each_arm_means_one() {
        PointingArms x = with("5,10,0;8,10,0;0,15,0");
        x.rule(0, 1);
        is("the first", x.fewest(1, 0, 10), 1);
        is("the hind one", x.fewest(2, 0, 10), NONE);
        is("both", x.fewest(3, 0, 10), NONE);
        is("two before all", x.fewest(5, 0, 10), 2);
        PointingArms ten = star();
        ten.rule(0, 1);
        is("ten by ten", ten.fewest(1023, 10, 10), 10);
    }

    static void promise22_two_arms_may_mean_one_thing_twice() {
        PointingArms x = with("15,13,0;10,10,5;15,7,0");
        is("the first two", x.fewest(3, 0, 10), 1);
        is("the last two", x.fewest(6, 0, 10), 1);
        is("all three", x.fewest(7, 0, 10), 2);
        is("those beside without the broad one", x.fewest(5, 0, 10), NONE);
    }

    /** By single arms: the first and fourth, the first, the last two, the two between, the second. */
    static void promise22_two_great_ones_are_better_than_one_by_one() {
        PointingArms x = with("11,13,1;4,18,3;2,15,3;0,10,4");
        is("two", x.fewest(15, 17, 16), 2);
        is("the first alone", x.fewest(1, 17, 16), 1);
        is("the second alone", x.fewest(2, 17, 16), 1);
        is("the third not alone", x.fewest(4, 17, 16), NONE);
        is("the fourth not alone", x.fewest(8, 17, 16), NONE);
    }

    static void promise22_what_was_asked_before_does_not_matter() {
        PointingArms x = with("5,10,0;8,10,0");
        is("both in a row", x.fewest(3, 0, 10), 1);
        is("from beside", x.fewest(3, 5, 5), 2);
        is("in a row again", x.fewest(3, 0, 10), 1);
        is("one from beside", x.fewest(1, 5, 5), 1);
        is("aside", x.aside(3, 5, 5, 1) >= 0 ? 1 : 0, 1);
        is("from beside again", x.fewest(3, 5, 5), 2);
    }

    /** The row of two is the third meaning from the first point, and there are but two from the second. */
    static void promise22_more_that_was_meant_before_does_not_matter() {
        PointingArms x = with("5,10,0;8,10,0;0,5,0;5,5,0");
        is("two above and a row", x.fewest(15, 0, 10), 3);
        is("the row from beside", x.fewest(3, 5, 5), 2);
    }

    static void promise22_it_is_tick_0() {
        for (int v : CROSSINGS) {
            is("the first of two", crossing(v).fewest(1, 0, 10), 1);
            is("the hind one", crossing(v).fewest(2, 0, 10), NONE);
        }
    }

    static void promise22_fewer_arms_are_better_than_more() {
        PointingArms x = with("15,10,0;18,10,0;10,15,0;10,18,0;10,5,0");
        is("two rows and one", x.fewest(31, 10, 10), 3);
        is("two rows", x.fewest(15, 10, 10), 2);
        is("half of a row", x.fewest(21, 10, 10), NONE);
    }

    // ---- 23 aside

    static void promise23_the_set_is_not_empty_and_of_things_that_are_there() {
        answeredFrom("set", 1, 31, (x, v) -> x.aside(v, 10, 0, 3));
        is("of nothing there", new PointingArms().aside(1, 10, 10, 1), BAD);
        is("all of ten", star().aside(1023, 10, 10, 9) == BAD ? 1 : 0, 0);
        is("beyond ten", star().aside(1024, 10, 10, 9), BAD);
    }

    static void promise23_it_is_from_a_point() {
        answeredAtPoints("aside", (x, px, py) -> x.aside(1, px, py, 1));
    }

    static void promise23_arms_are_1_to_9() {
        answeredFrom("arms", 1, 9, (x, v) -> x.aside(1, 0, 10, v));
        PointingArms x = star();
        x.rule(0, 1);
        is("nine arms for nine", x.aside(511, 10, 10, 9), 1010);
        is("nine arms for ten", x.aside(1023, 10, 10, 9), NONE);
        is("ten arms", x.aside(1023, 10, 10, 10), BAD);
        is("one arm for one", x.aside(1, 10, 10, 1), 1010);
        is("one arm for two", x.aside(3, 10, 10, 1), NONE);
        is("two arms for two", x.aside(3, 10, 10, 2), 1010);
        is("more than it needs", x.aside(3, 10, 10, 3), 1010);
    }

    static void promise23_where_one_is_is_nearest() {
        same("here", x -> x.aside(1, 0, 10, 1), 10);
        same("here, from the brim", x -> x.aside(1, 10, 0, 1), 1000);
    }

    static void promise23_of_like_ones_the_least_y() {
        PointingArms x = with("10,10,0");
        is("above it", x.aside(1, 10, 10, 1), 1009);
    }

    static void promise23_of_like_y_the_least_x() {
        PointingArms x = with("10,10,0;10,15,0");
        is("left of it, for above are two in a row", x.aside(1, 10, 10, 1), 910);
    }

    static void promise23_nearer_comes_before_the_least_y() {
        PointingArms x = with("10,10,0;10,15,0;5,10,0;15,10,0");
        is("below it, for all others see two", x.aside(1, 10, 10, 1), 1011);
    }

    static void promise23_it_is_six_away_at_most() {
        PointingArms x = with("14,10,5;20,10,0");
        is("six away, on the edge of the broad one", x.aside(2, 3, 10, 1), 910);
        is("seven away is too far", x.aside(2, 2, 10, 1), NONE);
        is("seven away, by any arms", x.aside(2, 2, 10, 9), NONE);
    }

    static void promise23_six_away_by_x_and_y_together() {
        PointingArms x = with("10,10,5");
        is("straight up", x.aside(1, 10, 10, 1), 1004);
        x.make(0, 1, 0);
        is("at the upper brim it is to the left", x.aside(1, 10, 0, 1), 400);
    }

    static void promise23_it_is_never_beside_the_ground() {
        PointingArms x = with("0,0,0");
        is("from the first corner", x.aside(1, 0, 0, 1), 100);
        x.make(0, 0, 20);
        x.make(0, 1, 20);
        is("from the last corner", x.aside(1, 20, 20, 1), 2019);
    }

    static void promise23_the_first_point_is_answered_as_0() {
        PointingArms x = with("5,5,0");
        is("from there", x.aside(1, 0, 0, 1), 0);
        PointingArms y = with("1,0,0");
        is("from the thing itself", y.aside(1, 1, 0, 1), 0);
    }

    static void promise23_a_point_beyond_the_brim_would_be_nearer() {
        PointingArms x = with("6,13,0");
        is("beyond the right brim", x.aside(1, 20, 10, 1), 1810);
        PointingArms y = with("13,6,0");
        is("beyond the lower brim", y.aside(1, 10, 20, 1), 1018);
        PointingArms z = with("14,7,0");
        is("beyond the left brim", z.aside(1, 0, 10, 1), 210);
        PointingArms u = with("7,14,0");
        is("beyond the upper brim", u.aside(1, 10, 0, 1), 1002);
    }

    static void promise23_it_is_tick_0() {
        for (int v : CROSSINGS) {
            is("the first of two", crossing(v).aside(1, 0, 10, 1), 10);
            is("the hind one", crossing(v).aside(2, 0, 10, 1) == 10 ? 1 : 0, 0);
        }
    }

    static void promise23_none_changes_nothing() {
        same("none", x -> x.aside(3, 10, 0, 1), NONE);
    }

    // ---- 24 meant

    static void promise24_an_arm_is_minus_9_to_9_not_both_0() {
        for (int[] arm : new int[][] {{9, 9}, {-9, -9}, {9, -9}, {0, 9}, {-9, 0}, {0, -1}}) {
            is(arm[0] + ", " + arm[1], herd().meant(arm[0], arm[1], 1), 2);
        }
        refusedForNoArms("meant", (x, dx, dy) -> x.meant(dx, dy, 1));
    }

    static void promise24_the_set_is_of_things_that_are_there_or_empty() {
        is("empty", herd().meant(1, 1, 0), 2);
        is("all", herd().meant(1, 1, 31), 2);
        refusedBeside("set", 0, 31, (x, v) -> x.meant(1, 1, v), BAD);
        is("all of ten", star().meant(1, 1, 1023), 1);
        is("beyond ten", star().meant(1, 1, 1024), BAD);
        is("empty where nothing is", new PointingArms().meant(1, 1, 0), 1);
        is("one where nothing is", new PointingArms().meant(1, 1, 1), BAD);
    }

    static void promise24_four_are_told_a_fifth_is_full() {
        PointingArms x = herd();
        for (int i = 2; i <= 4; i++) {
            is("told " + i, x.meant(1, i, 0), i);
        }
        is("the fifth", x.meant(1, 5, 0), FULL);
        leaves(Edges::full, "in a full object", y -> y.meant(1, 1, 1), FULL);
    }

    static void promise24_bad_comes_before_full() {
        leaves(Edges::full, "no arm", x -> x.meant(0, 0, 1), BAD);
        leaves(Edges::full, "a long arm", x -> x.meant(0, 10, 1), BAD);
        leaves(Edges::full, "no set", x -> x.meant(1, 1, 1024), BAD);
    }

    // ---- 25 stood

    static void promise25_what_is_0_to_2() {
        same("how many", x -> x.stood(0), 18);
        same("x", x -> x.stood(1), 1);
        same("y", x -> x.stood(2), 8);
        refusedBeside("what", 0, 2, PointingArms::stood, BAD);
    }

    static void promise25_if_there_are_none_they_are_0_and_the_first_is_none() {
        PointingArms x = with("10,10,0");
        x.meant(1, 0, 1);
        x.meant(1, 0, 0);
        is("how many", x.stood(0), 0);
        is("x", x.stood(1), NONE);
        is("y", x.stood(2), NONE);
        is("bad before none", x.stood(3), BAD);
    }

    static void promise25_the_first_and_the_last_point_count() {
        PointingArms x = with("10,10,0");
        x.meant(1, 1, 1);
        is("towards the middle", x.stood(0), 10);
        is("x of the first corner", x.stood(1), 0);
        is("y of the first corner", x.stood(2), 0);
        PointingArms y = with("19,19,0");
        y.meant(-1, -1, 1);
        is("the last corner alone", y.stood(0), 1);
        is("its x", y.stood(1), 20);
        is("its y", y.stood(2), 20);
    }

    static void promise25_the_first_is_by_y_then_x() {
        PointingArms x = with("10,10,0");
        x.meant(-1, 1, 1);
        is("x of the least y", x.stood(1), 20);
        is("the least y", x.stood(2), 0);
        PointingArms y = with("10,10,0");
        y.meant(1, 0, 1);
        is("the least x of like y", y.stood(1), 0);
        is("its y", y.stood(2), 10);
    }

    static void promise25_it_is_just_that_which_he_meant() {
        PointingArms x = with("10,10,0;15,10,0");
        x.meant(1, 0, 1);
        is("the first without the second", x.stood(0), 0);
        x.clear();
        x.meant(1, 0, 2);
        is("the second without the first", x.stood(0), 5);
        is("between them", x.stood(1), 10);
        x.clear();
        x.meant(1, 0, 3);
        is("both", x.stood(0), 10);
        x.rule(0, 1);
        is("by law no arm means both", x.stood(0), 0);
    }

    static void promise25_all_of_four_must_hold() {
        PointingArms x = with("10,10,0;5,5,0;10,0,0;0,10,0");
        x.meant(1, 0, 1);
        x.meant(0, -1, 2);
        is("after two", x.stood(0), 1);
        x.meant(-1, 0, 8);
        is("after three", x.stood(0), 1);
        is("x", x.stood(1), 5);
        is("y", x.stood(2), 10);
        x.meant(1, -1, 0);
        is("after a fourth that holds", x.stood(0), 1);
        PointingArms y = with("10,10,0;5,5,0;10,0,0;0,10,0");
        y.meant(1, 0, 1);
        y.meant(0, -1, 2);
        y.meant(-1, 0, 8);
        y.meant(1, -1, 1);
        is("the fourth counts", y.stood(0), 0);
    }

    static void promise25_a_set_of_things_that_are_gone_fits_nowhere() {
        PointingArms x = with("10,10,0;15,10,0");
        x.meant(1, 0, 2);
        Due.things(x, "15,10,0");
        is("told still", x.count(5), 1);
        is("nowhere", x.stood(0), 0);
    }

    static void promise25_it_is_tick_0() {
        PointingArms x = with("10,10,0");
        x.make(0, 4, 3);
        x.meant(1, 0, 1);
        is("in its row", x.stood(0), 10);
        is("y", x.stood(2), 10);
        for (int v : CROSSINGS) {
            PointingArms y = crossing(v);
            y.meant(1, 0, 1);
            is("before the first of two", y.stood(0), 5);
            y.clear();
            y.meant(1, 0, 2);
            is("between the two", y.stood(0), 3);
        }
    }

    // ---- 26 stall

    private static void isStall(int px, int py) {
        PointingArms x = with("10,10,0");
        is("stall " + px + ", " + py, x.stall(px, py), 0);
        is("count", x.count(4), 1);
        is("its way", x.market(1, 7, 7, -1), Math.abs(px - 7) + Math.abs(py - 7));
    }

    static void promise26_x_is_0_to_20() {
        isStall(0, 7);
        isStall(20, 7);
        refusedBeside("x", 0, 20, (x, v) -> x.stall(v, 7), BAD);
    }

    static void promise26_y_is_0_to_20() {
        isStall(7, 0);
        isStall(7, 20);
        refusedBeside("y", 0, 20, (x, v) -> x.stall(7, v), BAD);
    }

    static void promise26_numbers_are_0_to_7_as_they_come() {
        PointingArms x = new PointingArms();
        for (int i = 0; i < 8; i++) {
            is("stall " + i, x.stall(3, 3), i);
        }
    }

    static void promise26_the_ninth_is_full() {
        leaves(Edges::full, "stall", x -> x.stall(1, 1), FULL);
    }

    static void promise26_bad_comes_before_full() {
        leaves(Edges::full, "x", x -> x.stall(21, 1), BAD);
        leaves(Edges::full, "y", x -> x.stall(1, -1), BAD);
    }

    // ---- 27 market

    private static PointingArms marketOf(String things, int... stalls) {
        PointingArms x = with(things);
        for (int i = 0; i < stalls.length; i += 2) {
            x.stall(stalls[i], stalls[i + 1]);
        }
        return x;
    }

    static void promise27_n_is_1_to_4() {
        PointingArms x = marketOf("1,1,0;1,1,0;1,1,0;1,1,0;1,1,0", 0, 3, 3, 0, 3, 3, 1, 2, 2, 1);
        is("1", x.market(1, 0, 0, -1), 3);
        is("4", x.market(4, 0, 0, -1), 3 + 3 + 3 + 3);
        is("5", x.market(5, 0, 0, -1), BAD);
        is("0", x.market(0, 0, 0, -1), BAD);
        refusedBeside("n", 1, 4, (y, v) -> y.market(v, 0, 0, -1), BAD);
    }

    static void promise27_the_gate_is_a_point() {
        answeredAtPoints("gate", (x, px, py) -> x.market(1, px, py, -1));
    }

    static void promise27_k_is_minus_1_to_below_n() {
        PointingArms x = marketOf("1,1,0;1,1,0;1,1,0;1,1,0;1,1,0", 0, 3, 3, 0, 3, 3, 1, 2, 2, 1);
        for (int n = 1; n <= 4; n++) {
            is("-2 of " + n, x.market(n, 0, 0, -2), BAD);
            is("the last of " + n + " is somewhere", x.market(n, 0, 0, n - 1) >= 0 ? 1 : 0, 1);
            is("one beyond of " + n, x.market(n, 0, 0, n), BAD);
        }
        refusedBeside("k", -1, 0, (y, v) -> y.market(1, 0, 0, v), BAD);
        refusedBeside("k", -1, 2, (y, v) -> y.market(3, 0, 0, v), BAD);
    }

    static void promise27_there_must_be_so_many_things() {
        is("none", marketOf("", 0, 3).market(1, 0, 0, -1), NOT);
        PointingArms x = marketOf("1,1,0;1,1,0;1,1,0", 0, 3, 3, 0, 3, 3, 1, 2, 2, 1);
        is("just so many", x.market(3, 0, 0, -1), 9);
        is("one too few", x.market(4, 0, 0, -1), NOT);
        is("one too few, a stall", x.market(4, 0, 0, 3), NOT);
    }

    static void promise27_there_must_be_so_many_stalls() {
        is("none", marketOf("1,1,0").market(1, 0, 0, -1), NOT);
        PointingArms x = marketOf("1,1,0;1,1,0;1,1,0;1,1,0", 0, 3, 3, 0, 3, 3);
        is("just so many", x.market(3, 0, 0, -1), 12);
        is("one too few", x.market(4, 0, 0, -1), NOT);
        same("one too few in the herd", y -> y.market(4, 0, 0, 0), NOT);
    }

    static void promise27_bad_comes_before_not_before_none() {
        PointingArms x = new PointingArms();
        is("n", x.market(5, 0, 0, -1), BAD);
        is("x", x.market(1, 21, 0, -1), BAD);
        is("y", x.market(1, 0, -1, -1), BAD);
        is("k", x.market(1, 0, 0, 1), BAD);
        PointingArms y = marketOf("1,1,0;2,2,0", 0, 0);
        is("not before none", y.market(2, 0, 0, -1), NOT);
        is("none", y.market(1, 0, 0, -1), NONE);
        is("k before none", y.market(1, 0, 0, 1), BAD);
    }

    static void promise27_none_in_no_way() {
        PointingArms x = marketOf("1,1,0;2,2,0", 0, 3, 0, 6);
        is("one behind the other", x.market(2, 0, 0, -1), NONE);
        is("one behind the other, a stall", x.market(2, 0, 0, 0), NONE);
        x.rule(0, 1);
        is("by law the hind one can't be meant", x.market(2, 0, 0, -1), NONE);
        x.rule(1, 0);
        is("of breadth 0 without touched ones", x.market(1, 0, 0, -1), NONE);
        leaves(y -> {
            herd(y);
            y.rule(1, 0);
            y.make(0, 2, 0);
        }, "none changes nothing", y -> y.market(1, 0, 0, -1), NONE);
    }

    static void promise27_the_least_ways_by_x_and_y_together() {
        PointingArms x = marketOf("1,1,0", 10, 0, 7, 6, 10, 18);
        is("from the middle", x.market(1, 10, 10, -1), 7);
        is("its stall", x.market(1, 10, 10, 0), 1);
        PointingArms y = marketOf("1,1,0;1,1,0", 20, 20, 0, 20, 20, 0, 1, 1);
        is("of two", y.market(2, 0, 0, -1), 22);
        is("the first's", y.market(2, 0, 0, 0), 1);
        is("the second's", y.market(2, 0, 0, 1), 3);
    }

    static void promise27_the_nearest_is_passed_by_if_none_can_be_meant_there() {
        PointingArms x = marketOf("1,1,0", 1, 7, 10, 10);
        is("no arm of the fan goes to the nearer one", x.market(1, 0, 0, -1), 20);
        is("its stall", x.market(1, 0, 0, 0), 1);
        x.make(0, 2, 1);
        is("of some breadth it can be meant", x.market(1, 0, 0, 0), 0);
    }

    static void promise27_of_like_ones_the_first_as_a_row_of_stalls() {
        PointingArms x = marketOf("1,1,0;1,1,0", 5, 0, 0, 3, 3, 0, 1, 2);
        is("ways", x.market(2, 0, 0, -1), 6);
        is("the first's", x.market(2, 0, 0, 0), 1);
        is("the second's", x.market(2, 0, 0, 1), 2);
        PointingArms y = marketOf("1,1,0", 1, 7, 8, 0, 0, 8);
        is("the first of those that will do", y.market(1, 0, 0, 0), 1);
    }

    static void promise27_a_row_goes_by_the_first_thing_first() {
        PointingArms x = marketOf("1,1,0;1,1,5", 6, 0, 0, 6, 0, 14);
        is("the broad one may not be near the narrow one's arm", x.market(2, 0, 0, -1), 12);
        is("the first's", x.market(2, 0, 0, 0), 0);
        is("the second's", x.market(2, 0, 0, 1), 1);
        PointingArms y = marketOf("1,1,0;1,1,0;1,1,0", 0, 3, 3, 0, 2, 1);
        is("three on three", y.market(3, 0, 0, -1), 9);
        for (int k = 0; k < 3; k++) {
            is("as they come " + k, y.market(3, 0, 0, k), k);
        }
    }

    static void promise27_no_other_things_are_there() {
        PointingArms x = marketOf("0,15,0;0,10,5", 0, 3);
        is("a broad one on the ground is not in the way", x.market(1, 0, 0, -1), 3);
        PointingArms y = marketOf("0,3,0;0,10,5;0,1,0", 0, 3, 6, 0, 6, 6);
        is("nor the third", y.market(2, 0, 0, -1), 9);
    }

    static void promise27_no_other_thing_lies_anywhere() {
        for (int corner = 0; corner < 4; corner++) {
            int far = corner % 2 == 0 ? 5 : 15;
            int down = corner < 2 ? 5 : 15;
            PointingArms x = marketOf("1,1,0;0,0,0;0,20,0;20,0,0;20,20,0", far, down);
            is("towards corner " + corner, x.market(1, 10, 10, -1), 10);
        }
    }

    static void promise27_all_but_the_middle_is_as_at_tick_0() {
        PointingArms x = marketOf("1,1,0;2,2,5", 0, 3, 0, 6);
        is("the broad one behind: its arms", x.market(2, 0, 0, -1), NONE);
        x.rule(0, 1);
        for (int what = 3; what <= 4; what++) {
            x.make(0, what, 3);
            x.make(1, what, -3);
        }
        is("by law, though they go", x.market(2, 0, 0, -1), 9);
        is("the narrow one before", x.market(2, 0, 0, 0), 0);
        is("the broad one behind", x.market(2, 0, 0, 1), 1);
    }

    static void promise27_the_gate_may_be_on_a_stall() {
        PointingArms x = marketOf("1,1,0", 0, 3, 5, 3);
        is("what lies there can't be meant", x.market(1, 0, 3, 0), 1);
        is("nor near it, if it is broad", marketOf("1,1,5", 0, 3).market(1, 3, 7, -1), NONE);
        is("but beyond its edge", marketOf("1,1,5", 0, 3).market(1, 4, 7, -1), 8);
    }

    static void promise27_two_stalls_may_be_one_point() {
        PointingArms x = marketOf("1,1,0;1,1,2", 0, 3, 0, 3);
        is("both there", x.market(2, 0, 0, -1), NONE);
        x.rule(0, 1);
        is("by law the lesser number is first, the broad one has arms of its own", x.market(2, 0, 0, -1), 6);
        is("the first's", x.market(2, 0, 0, 0), 0);
        is("the second's", x.market(2, 0, 0, 1), 1);
    }

    static void promise27_four_of_eight() {
        PointingArms x = marketOf("1,1,0;1,1,0;1,1,0;1,1,0", 20, 20, 20, 0, 0, 20, 16, 8, 0, 3, 3, 0, 2, 1, 1, 2);
        is("ways", x.market(4, 0, 0, -1), 12);
        for (int k = 0; k < 4; k++) {
            is("stall of " + k, x.market(4, 0, 0, k), 4 + k);
        }
    }

    static void promise27_asking_changes_nothing() {
        same("things stay where they are", x -> x.market(1, 10, 0, 0) >= 0 ? 1 : 0, 1);
        same("and of three", x -> x.market(3, 10, 0, -1) == BAD ? 1 : 0, 0);
    }

    // ---- 28 clear

    static void promise28_it_tells_all_three_together() {
        is("herd", herd().clear(), 3 + 1 + 5);
        is("full", full().clear(), 8 + 4 + 6);
        is("new", new PointingArms().clear(), 0);
        PointingArms x = herd();
        x.clear();
        is("again", x.clear(), 0);
    }

    static void promise28_each_of_the_three_goes() {
        PointingArms x = full();
        x.clear();
        int[] want = {10, 6, 0, 0, 0, 0};
        for (int what = 0; what <= 5; what++) {
            is("count " + what, x.count(what), want[what]);
        }
        is("says", x.says(0, 0), BAD);
        is("dark", x.dark(0), 0);
        is("stood", x.stood(0), 441);
        is("market", x.market(1, 0, 0, -1), NOT);
        is("a stall anew", x.stall(1, 1), 0);
        is("told anew", x.meant(1, 1, 0), 1);
    }

    static void promise28_all_else_stays() {
        PointingArms x = herd();
        x.rule(0, 1);
        x.rule(1, 0);
        x.clear();
        is("law 0", x.rule(0, 0), 1);
        is("law 1", x.rule(1, 1), 0);
        is("a way", x.at(4, 60, 1), 18 - 180);
        is("one of people", x.walk(3, 1, 1), 1009);
        is("tape", x.type(' ', 1), 6);
        is("a sheet", x.clears(0, 1, 1, 0, 1), 1);
        for (int part = 2; part < Probe.PARTS; part++) {
            PointingArms y = herd();
            y.clear();
            alike("sheets, tape and image stay", part, y, Edges::herd);
        }
    }

    // ---- 29 image, 30 restore

    static void promise29_it_changes_nothing() {
        for (int part = 0; part < 4; part++) {
            PointingArms x = herd();
            is("image", x.image(), 1);
            alike("image", part, x, Edges::herd);
        }
    }

    static void promise29_a_later_image_is_in_place_of_the_one_before() {
        PointingArms x = with("1,2,3");
        x.image();
        x.make(0, 0, 7);
        is("another", x.image(), 1);
        x.make(0, 0, 9);
        x.restore();
        is("the later one", x.at(0, 0, 0), 7);
    }

    static void promise29_of_an_empty_ground() {
        PointingArms x = new PointingArms();
        is("image", x.image(), 1);
        x.thing(1, 1, 1);
        x.person(1, 1);
        x.stall(1, 1);
        x.meant(1, 1, 1);
        Due.talk(x, "0+1+1");
        x.rule(0, 1);
        x.rule(1, 0);
        is("restore", x.restore(), 1);
        for (int what = 0; what <= 5; what++) {
            is("count " + what, x.count(what), 0);
        }
        is("law 0", x.rule(0, 0), 0);
        is("law 1", x.rule(1, 1), 1);
    }

    static void promise29_of_a_full_one() {
        PointingArms x = full();
        x.clear();
        is("things", x.things() < 0 ? 1 : 0, 1);
        Due.things(x, "1,1,1");
        x.walk(5, 0, 0);
        is("restore", x.restore(), 1);
        int[] want = {10, 6, 6, 16, 8, 4};
        for (int what = 0; what <= 5; what++) {
            is("count " + what, x.count(what), want[what]);
        }
        is("the last thing", x.at(9, 0, 0), 18);
        is("the last of people", x.walk(5, 15, 10), 1510);
    }

    static void promise29_sheets_and_the_tape_are_not_kept() {
        PointingArms x = herd();
        x.image();
        x.drop(0);
        x.sheet(3, 2, 7);
        x.type('9', 1);
        x.restore();
        is("a sheet that is gone", x.drop(0), NULL);
        is("a sheet that came", x.drop(3), 7);
        is("the tape", x.type('9', 1), 7);
        PointingArms y = herd();
        y.image();
        y.things();
        y.restore();
        is("a tape that was read", y.type('9', 1), 1);
    }

    static void promise30_none_without_an_image() {
        leaves(x -> Due.things(x, "1,2,3;4,5,0"), "restore", PointingArms::restore, NONE);
        PointingArms x = new PointingArms();
        x.clear();
        is("clear is no image", x.restore(), NONE);
    }

    static void promise30_all_is_as_it_was_then() {
        for (int part = 0; part < Probe.PARTS; part++) {
            PointingArms x = herd();
            x.image();
            changeAll(x);
            is("restore", x.restore(), 1);
            alike("restored", part, x, y -> {
                herd(y);
                y.image();
            });
        }
    }

    /** Of each kind that an image keeps something is changed, by number and by what it holds. */
    private static void changeAll(PointingArms x) {
        for (int what = 0; what < 5; what++) {
            x.make(1, what, 2);
        }
        x.thing(2, 2, 2);
        x.walk(1, 5, 5);
        x.person(6, 6);
        x.rule(0, 1);
        x.rule(1, 0);
        x.clear();
        x.stall(1, 1);
        x.stall(2, 2);
        x.stall(3, 3);
        x.stall(4, 4);
        x.meant(0, -1, 0);
        x.meant(-1, 0, 0);
    }

    static void promise30_the_image_stays_and_may_be_restored_again() {
        PointingArms x = herd();
        x.image();
        for (int round = 0; round < 3; round++) {
            changeAll(x);
            is("restore", x.restore(), 1);
            is("a thing", x.at(1, 0, 0), 15);
            is("a person", x.walk(1, 20, 20), 2020);
            is("things", x.count(0), 5);
            is("stalls", x.count(4), 3);
            is("law 0", x.rule(0, 0), 0);
        }
        is("twice in a row", x.restore(), 1);
    }

    static void promise30_the_talk_and_its_people_come_back_together() {
        PointingArms x = herd();
        x.image();
        x.things();
        is("another talk", Due.talk(x, "3+1+1,2+1+1;1-9-9"), 2);
        x.person(1, 1);
        x.restore();
        is("sentences", x.count(2), 5);
        is("arms", x.count(3), 8);
        is("the first", x.says(0, 0), 3);
        is("the fourth", x.says(3, 0), 5);
        is("the next person's number", x.person(1, 1), 4);
    }

    static void promise30_numbers_go_on_from_what_was() {
        PointingArms x = herd();
        x.restore();
        is("thing", x.thing(1, 1, 1), 2);
        is("person", x.person(1, 1), 1);
        is("stall", x.stall(1, 1), 1);
        is("meant", x.meant(1, 1, 0), 2);
    }
}
