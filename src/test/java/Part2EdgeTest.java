/** Boundary cases of promises 12 to 19: what is met and meant. */
final class Part2EdgeTest extends Edges {
    public static void main(String[] args) throws IllegalAccessException {
        runAll(Part2EdgeTest.class, 12, 19);
    }

    private static PointingArms peopleAt(PointingArms x, int... points) {
        for (int i = 0; i < points.length; i += 2) {
            x.person(points[i], points[i + 1]);
        }
        return x;
    }

    // ---- 12 meets

    static void promise12_x_is_0_to_20() {
        answeredFrom("x", 0, 20, (x, v) -> x.meets(v, 10, 1, 0));
        is("from the left brim", herd().meets(0, 10, 1, 0), 3);
        is("from the right brim", herd().meets(20, 10, -1, 0), 11);
    }

    static void promise12_y_is_0_to_20() {
        answeredFrom("y", 0, 20, (x, v) -> x.meets(10, v, 1, 0));
        is("from the upper brim", herd().meets(10, 0, 0, 1), 5);
        is("from the lower brim", herd().meets(10, 20, 0, -1), 5);
    }

    static void promise12_an_arm_is_minus_9_to_9_not_both_0() {
        answeredForArms("meets", (x, dx, dy) -> x.meets(10, 9, dx, dy));
        PointingArms x = with("19,19,0;1,1,0;19,1,0;1,19,0");
        is("9, 9", x.meets(10, 10, 9, 9), 1);
        is("-9, -9", x.meets(10, 10, -9, -9), 2);
        is("9, -9", x.meets(10, 10, 9, -9), 4);
        is("-9, 9", x.meets(10, 10, -9, 9), 8);
    }

    static void promise12_none_is_the_empty_set() {
        same("upwards", x -> x.meets(10, 0, 0, -1), 0);
    }

    static void promise12_all_ten_may_be_met() {
        PointingArms x = new PointingArms();
        for (int i = 0; i < 10; i++) {
            x.thing(20 - i, 10, 0);
        }
        is("all of them", x.meets(0, 10, 1, 0), 1023);
        is("the last alone", x.meets(10, 10, 1, 0), 1023);
        is("from the last", x.meets(11, 10, 1, 0), 511);
    }

    static void promise12_one_that_is_touched_is_met_by_law_1() {
        PointingArms x = with("10,10,2");
        is("touched", x.meets(0, 12, 1, 0), 1);
        is("touched on the other side", x.meets(0, 8, 1, 0), 1);
        x.rule(1, 0);
        is("touched, not by law", x.meets(0, 12, 1, 0), 0);
        is("touched on the other side, not by law", x.meets(0, 8, 1, 0), 0);
        is("just within, whatever the law", x.meets(0, 11, 1, 0), 1);
        x.rule(1, 1);
        is("just beside, whatever the law", x.meets(0, 13, 1, 0), 0);
    }

    static void promise12_a_slanting_arm_touches_too() {
        PointingArms x = with("10,5,5");
        is("touched by 3, 4", x.meets(0, 0, 3, 4), 1);
        x.rule(1, 0);
        is("touched by 3, 4, not by law", x.meets(0, 0, 3, 4), 0);
        x.make(0, 1, 6);
        is("just within", x.meets(0, 0, 3, 4), 1);
        x.rule(1, 1);
        x.make(0, 1, 4);
        is("just beside", x.meets(0, 0, 3, 4), 0);
    }

    static void promise12_a_longer_arm_of_one_direction_meets_the_same() {
        PointingArms x = with("10,12,2;10,13,2;9,8,2");
        for (int reach = 1; reach <= 9; reach++) {
            is("by " + reach, x.meets(0, 10, reach, 0), 5);
        }
    }

    static void promise12_one_stands_on_it_up_to_its_edge() {
        PointingArms x = with("10,10,5");
        is("in its middle", x.meets(10, 10, 1, 0), 0);
        is("on the edge: 3, 4", x.meets(7, 6, 3, 4), 0);
        is("on the edge: 5, 0", x.meets(5, 10, 1, 0), 0);
        is("beyond the edge: 6, 0", x.meets(4, 10, 1, 0), 1);
        is("beyond the edge: 4, 4", x.meets(6, 6, 1, 1), 1);
        is("beyond the edge: 1, 5", x.meets(9, 5, 1, 5), 1);
    }

    static void promise12_the_edge_is_the_same_without_touched_ones() {
        PointingArms x = with("10,10,5");
        x.rule(1, 0);
        is("on the edge", x.meets(7, 6, 3, 4), 0);
        is("beyond it", x.meets(9, 5, 1, 5), 1);
    }

    static void promise12_what_is_behind_is_not_met() {
        PointingArms x = with("10,10,5");
        is("away from it", x.meets(16, 10, 1, 0), 0);
        is("away from it, aslant", x.meets(4, 4, -1, -1), 0);
        is("at a right angle", x.meets(16, 10, 0, 1), 0);
        is("just towards it", x.meets(16, 10, -2, 3), 1);
    }

    static void promise12_of_breadth_0_the_arm_must_go_through_the_middle() {
        PointingArms x = with("10,10,0");
        is("just through it", x.meets(0, 10, 1, 0), 1);
        is("through it by 2, 1", x.meets(0, 5, 2, 1), 1);
        is("a point beside", x.meets(0, 11, 1, 0), 0);
        is("from the point next to it", x.meets(9, 10, 9, 0), 1);
        is("a little aslant", x.meets(9, 10, 9, 1), 0);
        is("standing on it", x.meets(10, 10, 1, 0), 0);
    }

    static void promise12_of_breadth_0_none_is_met_but_by_law_1() {
        PointingArms x = with("10,10,0");
        x.rule(1, 0);
        is("just through it", x.meets(0, 10, 1, 0), 0);
        x.make(0, 2, 1);
        is("of breadth 1", x.meets(0, 10, 1, 0), 1);
    }

    static void promise12_law_0_is_not_asked() {
        PointingArms x = herd();
        x.rule(0, 1);
        is("all that are met", x.meets(0, 10, 1, 0), 3);
    }

    static void promise12_it_is_tick_0() {
        PointingArms x = with("0,10,0");
        x.make(0, 3, 1);
        is("on it at tick 0 alone", x.meets(0, 10, 1, 0), 0);
    }

    // ---- 13 means

    static void promise13_he_must_be_there() {
        answeredFrom("person", 0, 3, (x, v) -> x.means(v, 1, 0, 0));
        is("nobody at all", new PointingArms().means(0, 1, 0, 0), BAD);
        is("the last of six", full().means(5, 1, 0, 0) == BAD ? 1 : 0, 0);
        is("beyond six", full().means(6, 1, 0, 0), BAD);
    }

    static void promise13_an_arm_is_minus_9_to_9_not_both_0() {
        answeredForArms("means", (x, dx, dy) -> x.means(3, dx, dy, 1));
    }

    static void promise13_the_tick_is_0_to_60() {
        answeredFrom("tick", 0, 60, (x, v) -> x.means(0, 1, 0, v));
        is("at 0", herd().means(0, 1, 0, 0), 3);
        is("at 60", herd().means(0, 1, 0, 60), 1);
        is("at 0 from the corner", herd().means(1, -1, -1, 0), 17);
        is("at 60 from the corner", herd().means(1, -1, -1, 60), 0);
    }

    static void promise13_by_law_0_all_or_the_first() {
        PointingArms x = peopleAt(with("15,10,1;5,10,0;10,10,5"), 0, 10);
        is("all", x.means(0, 1, 0, 0), 7);
        x.rule(0, 1);
        is("the first", x.means(0, 1, 0, 0), 2);
        is("of none none", x.means(0, -1, 0, 0), 0);
        x.walk(0, 20, 10);
        is("the first from the other side", x.means(0, -1, 0, 0), 1);
    }

    static void promise13_the_first_is_by_the_arm_not_by_how_far_it_is() {
        PointingArms x = peopleAt(with("6,10,0;5,14,4"), 0, 10);
        is("both", x.means(0, 1, 0, 0), 3);
        x.rule(0, 1);
        is("the lesser e, though it is farther", x.means(0, 1, 0, 0), 2);
    }

    static void promise13_of_like_ones_the_lesser_number_is_first() {
        PointingArms x = peopleAt(with("5,12,2;5,10,0;5,8,2"), 0, 10);
        x.rule(0, 1);
        is("three alike", x.means(0, 1, 0, 0), 1);
        x.make(0, 1, 20);
        is("two alike", x.means(0, 1, 0, 0), 2);
        x.make(1, 0, 6);
        is("one farther", x.means(0, 1, 0, 0), 4);
    }

    static void promise13_the_first_is_of_those_met() {
        PointingArms x = peopleAt(with("3,15,0;8,10,0;0,10,5"), 0, 10);
        x.rule(0, 1);
        is("neither the one beside nor the one stood on", x.means(0, 1, 0, 0), 2);
    }

    static void promise13_touched_ones_may_be_first_by_law_1() {
        PointingArms x = peopleAt(with("5,12,2;9,10,1"), 0, 10);
        x.rule(0, 1);
        is("the touched one", x.means(0, 1, 0, 0), 1);
        x.rule(1, 0);
        is("not by law", x.means(0, 1, 0, 0), 2);
    }

    static void promise13_a_herd_passes_by_at_its_tick() {
        PointingArms x = peopleAt(with("5,0,0"), 0, 10);
        x.make(0, 4, 1);
        is("a tick before", x.means(0, 1, 0, 9), 0);
        is("just then", x.means(0, 1, 0, 10), 1);
        is("a tick behind", x.means(0, 1, 0, 11), 0);
    }

    static void promise13_it_may_come_over_him() {
        PointingArms x = peopleAt(with("5,10,1"), 0, 10);
        x.make(0, 3, -1);
        is("ahead", x.means(0, 1, 0, 3), 1);
        for (int tick = 4; tick <= 6; tick++) {
            is("on it at " + tick, x.means(0, 1, 0, tick), 0);
            is("on it at " + tick + ", backwards", x.means(0, -1, 0, tick), 0);
        }
        is("behind him", x.means(0, 1, 0, 7), 0);
        is("beyond the ground", x.means(0, -1, 0, 7), 1);
    }

    static void promise13_the_first_is_by_where_they_are_at_that_tick() {
        PointingArms x = crossing(3);
        is("at 0", x.means(0, 1, 0, 0), 1);
        is("at 1 they have changed places", x.means(0, 1, 0, 1), 2);
        is("at 3 one is behind him", x.means(0, 1, 0, 3), 1);
    }

    static void promise13_farthest_beyond_the_ground() {
        PointingArms x = peopleAt(with("20,20,0;0,0,0"), 20, 20, 0, 0);
        for (int what = 3; what <= 4; what++) {
            x.make(0, what, 3);
            x.make(1, what, -3);
        }
        is("at 200, 200", x.means(0, 9, 9, 60), 1);
        is("at -180, -180", x.means(1, -9, -9, 60), 2);
        is("a little aslant", x.means(0, 9, 8, 60), 0);
    }

    static void promise13_asking_changes_nothing() {
        same("means", x -> x.means(0, 1, 0, 60), 1);
    }

    // ---- 14 both

    static void promise14_each_must_be_there() {
        answeredFrom("one", 0, 3, (x, v) -> x.both(v, 1, 0, 0, 1, 0));
        answeredFrom("other", 0, 3, (x, v) -> x.both(0, 1, 0, v, 1, 0));
    }

    static void promise14_each_arm_is_minus_9_to_9_not_both_0() {
        answeredForArms("the first arm", (x, dx, dy) -> x.both(0, dx, dy, 2, 0, 1));
        answeredForArms("the other arm", (x, dx, dy) -> x.both(0, 1, 0, 2, dx, dy));
    }

    static void promise14_one_may_hold_out_both() {
        same("the same arm", x -> x.both(2, 0, 1, 2, 0, 9), 5);
        same("unlike arms", x -> x.both(2, 0, 1, 2, 1, 9), 1);
        same("opposite arms", x -> x.both(2, 0, 1, 2, 0, -1), 0);
    }

    static void promise14_it_is_what_both_meet() {
        PointingArms x = peopleAt(with("5,10,1;10,10,1;15,10,1;10,16,1"), 0, 10, 20, 10, 10, 0);
        is("all of a row", x.both(0, 1, 0, 1, -1, 0), 7);
        is("where they cross", x.both(0, 1, 0, 2, 0, 1), 2);
        is("nowhere", x.both(0, 1, 0, 2, 1, 0), 0);
    }

    static void promise14_by_law_0_the_one_ahead_by_the_first_arm() {
        PointingArms x = peopleAt(with("5,10,1;10,10,1;15,10,1"), 0, 10, 20, 10);
        x.rule(0, 1);
        is("from the left", x.both(0, 1, 0, 1, -1, 0), 1);
        is("from the right", x.both(1, -1, 0, 0, 1, 0), 4);
    }

    static void promise14_of_like_ones_the_lesser_number() {
        PointingArms x = peopleAt(with("10,9,1;10,11,1"), 0, 10, 20, 10);
        is("both touched", x.both(0, 1, 0, 1, -1, 0), 3);
        x.rule(0, 1);
        is("the lesser number", x.both(0, 1, 0, 1, -1, 0), 1);
        is("the lesser number from the other side", x.both(1, -1, 0, 0, 1, 0), 1);
    }

    static void promise14_ahead_of_those_that_both_meet_alone() {
        PointingArms x = peopleAt(with("5,10,1;10,10,1"), 0, 10, 10, 0);
        x.rule(0, 1);
        is("the first of one arm is not met by the other", x.both(0, 1, 0, 1, 0, 1), 2);
    }

    static void promise14_it_is_tick_0() {
        for (int v = -1; v <= 1; v += 2) {
            PointingArms x = peopleAt(with("10,10,0"), 0, 10, 10, 0);
            x.make(0, 3, v);
            x.make(0, 4, v);
            is("where they cross", x.both(0, 1, 0, 1, 0, 1), 1);
        }
        for (int v : CROSSINGS) {
            is("the first of two", crossing(v).both(0, 1, 0, 1, 1, 0), 1);
        }
    }

    // ---- 15 says

    static void promise15_the_sentence_must_be_there() {
        int[] want = {3, 1, 17, 5, 0};
        for (int i = 0; i < 5; i++) {
            int sentence = i;
            same("sentence " + i, x -> x.says(sentence, 0), want[i]);
        }
        refusedBeside("sentence", 0, 4, (x, v) -> x.says(v, 0), BAD);
        is("the last of six", full().says(5, 0) == BAD ? 1 : 0, 0);
        is("beyond six", full().says(6, 0), BAD);
    }

    static void promise15_without_a_talk_there_is_none() {
        PointingArms x = herd();
        x.clear();
        is("the first", x.says(0, 0), BAD);
        is("in a new object", new PointingArms().says(0, 0), BAD);
    }

    static void promise15_the_tick_is_0_to_60() {
        answeredFrom("tick", 0, 60, (x, v) -> x.says(0, v));
        is("at 60", herd().says(0, 60), 1);
        is("at 60, another", herd().says(1, 60), 0);
    }

    static void promise15_all_arms_of_it_up_to_three_must_meet() {
        PointingArms x = peopleAt(with("5,10,1;10,10,1;15,10,1;10,16,1"), 0, 10, 20, 10, 10, 0);
        is("talk", Due.talk(x, "0+1+0;0+1+0,1-1+0;0+1+0,1-1+0,2+0+1;0+1+0,1-1+0,2+1+0;2+0+1,2+0+1,2+0+1"), 5);
        int[] want = {7, 7, 2, 0, 10};
        for (int i = 0; i < 5; i++) {
            is("sentence " + i, x.says(i, 0), want[i]);
        }
    }

    static void promise15_the_first_sentence_may_have_three_arms() {
        PointingArms x = peopleAt(with("5,10,1;10,10,1;15,10,1"), 0, 10, 20, 10, 10, 0);
        is("talk", Due.talk(x, "0+1+0,2+0+1,1-1+0;0+1+0"), 2);
        is("the first", x.says(0, 0), 2);
        is("the second", x.says(1, 0), 7);
        is("the second arm counts", Due.talk(x, "0+1+0,2+0-1,1-1+0"), 1);
        is("it meets none", x.says(0, 0), 0);
        is("the third arm counts", Due.talk(x, "0+1+0,1-1+0,2+0-1"), 1);
        is("it meets none either", x.says(0, 0), 0);
        is("the first arm counts", Due.talk(x, "2+0-1,1-1+0,0+1+0"), 1);
        is("nor does it", x.says(0, 0), 0);
    }

    static void promise15_the_first_is_by_where_they_are_at_that_tick() {
        PointingArms x = crossing(3);
        Due.talk(x, "0+1+0,1+1+0");
        is("at 0", x.says(0, 0), 1);
        is("at 1", x.says(0, 1), 2);
        is("at 60 it is behind him", x.says(0, 60), 1);
    }

    static void promise15_by_law_0_the_one_ahead_by_its_first_arm() {
        PointingArms x = peopleAt(with("5,10,1;10,10,1;15,10,1"), 0, 10, 20, 10);
        x.rule(0, 1);
        Due.talk(x, "0+1+0,1-1+0;1-1+0,0+1+0;1-9+0,0+1+0,0+1+0");
        is("the first arm from the left", x.says(0, 0), 1);
        is("the first arm from the right", x.says(1, 0), 4);
        is("of three arms", x.says(2, 0), 4);
    }

    static void promise15_arms_come_from_where_they_stand_now() {
        PointingArms x = herd();
        x.walk(2, 0, 0);
        is("one of its people has gone to where it touches another thing", x.says(3, 0), 8);
        is("another sentence of his", x.says(1, 0), 0);
        is("a sentence of others", x.says(0, 0), 3);
    }

    // ---- 16 dark

    static void promise16_the_tick_is_0_to_60() {
        same("at 0", x -> x.dark(0), 29);
        same("at 60", x -> x.dark(60), 30);
        refusedBeside("tick", 0, 60, PointingArms::dark, BAD);
    }

    static void promise16_without_a_talk_none_is_dark() {
        PointingArms x = herd();
        x.clear();
        is("dark", x.dark(0), 0);
        is("dark at 60", x.dark(60), 0);
        is("dark at 61", x.dark(61), BAD);
    }

    static void promise16_dark_is_none_or_more_than_one() {
        PointingArms x = peopleAt(with("10,10,0;15,10,0;10,15,0"), 0, 10, 10, 20);
        is("talk", Due.talk(x, "0-1+0;0+1+0,1+0-1;0+1+0"), 3);
        is("none, one, two", x.dark(0), 5);
        x.rule(0, 1);
        is("by law of two the first", x.dark(0), 1);
    }

    static void promise16_all_six_may_be_dark_or_none() {
        PointingArms x = peopleAt(with("10,10,0"), 0, 10);
        Due.talk(x, "0-1+0;0-1+0;0-1+0;0-1+0;0-1+0;0-1+0");
        is("all", x.dark(0), 63);
        Due.talk(x, "0+1+0;0+1+0;0+1+0;0+1+0;0+1+0;0+1+0");
        is("none", x.dark(0), 0);
    }

    // ---- 17 when

    static void promise17_each_must_be_there() {
        answeredFrom("person", 0, 3, (x, v) -> x.when(v, 1, 0, 0));
        answeredFrom("thing", 0, 4, (x, v) -> x.when(0, 1, 0, v));
        is("nothing at all", peopleAt(new PointingArms(), 1, 1).when(0, 1, 0, 0), BAD);
        is("nobody at all", with("1,1,1").when(0, 1, 0, 0), BAD);
    }

    static void promise17_an_arm_is_minus_9_to_9_not_both_0() {
        answeredForArms("when", (x, dx, dy) -> x.when(0, dx, dy, 0));
    }

    static void promise17_it_may_be_tick_0() {
        PointingArms x = peopleAt(with("10,10,0"), 0, 10);
        is("at once", x.when(0, 1, 0, 0), 0);
    }

    private static PointingArms lateOne(int personX) {
        PointingArms x = peopleAt(with("0,0,0"), personX, 20);
        x.make(0, 3, 1);
        return x;
    }

    static void promise17_tick_60_is_the_last() {
        is("at 60", lateOne(0).when(0, 3, -1, 0), 60);
        is("it would be at 61", lateOne(1).when(0, 3, -1, 0), NONE);
        leaves(x -> {
            herd(x);
            x.make(2, 3, 0);
        }, "never", x -> x.when(2, 0, -1, 0), NONE);
    }

    static void promise17_the_first_of_several_ticks() {
        PointingArms x = peopleAt(with("10,0,2"), 0, 10);
        x.make(0, 4, 1);
        is("touched first", x.when(0, 1, 0, 0), 8);
        x.rule(1, 0);
        is("not when touched", x.when(0, 1, 0, 0), 9);
    }

    static void promise17_it_must_be_alone() {
        PointingArms x = peopleAt(with("10,10,1;15,10,1"), 0, 10);
        x.make(1, 4, 1);
        is("when the other has gone", x.when(0, 1, 0, 0), 2);
        is("the other is never alone", x.when(0, 1, 0, 1), NONE);
        x.rule(0, 1);
        is("by law the first is alone", x.when(0, 1, 0, 0), 0);
        is("by law the other never", x.when(0, 1, 0, 1), NONE);
    }

    // ---- 18 misread

    static void promise18_each_must_be_there() {
        refusedBeside("one", 0, 3, (x, v) -> x.misread(v, 1, 0, 1), BAD);
        refusedBeside("other", 0, 3, (x, v) -> x.misread(1, 1, 0, v), BAD);
        same("the last and the first", x -> x.misread(3, 1, 0, 0), 3);
        same("the first and the last", x -> x.misread(0, 1, 0, 3), 2);
    }

    static void promise18_one_and_the_same_is_bad() {
        for (int i = 0; i < 4; i++) {
            int one = i;
            same("by oneself " + i, x -> x.misread(one, 1, 0, one), BAD);
        }
    }

    static void promise18_an_arm_is_minus_9_to_9_not_both_0() {
        answeredForArms("misread", (x, dx, dy) -> x.misread(0, dx, dy, 3));
    }

    static void promise18_two_on_one_point_read_alike() {
        PointingArms x = peopleAt(with("10,10,1"), 0, 10, 0, 10);
        is("alike", x.misread(0, 1, 0, 1), 1);
    }

    static void promise18_it_comes_from_where_the_other_stands() {
        PointingArms x = peopleAt(with("10,10,1;10,5,1;15,5,1"), 0, 10, 0, 5);
        is("one takes the other's", x.misread(0, 1, 0, 1), 6);
        is("the other takes his", x.misread(1, 1, 0, 0), 1);
        x.rule(0, 1);
        is("by law the first", x.misread(0, 1, 0, 1), 2);
    }

    static void promise18_it_is_tick_0() {
        for (int v : CROSSINGS) {
            is("the first of two", crossing(v).misread(0, 1, 0, 1), 1);
            PointingArms x = peopleAt(with("10,10,0"), 0, 5, 0, 10);
            x.make(0, 4, v);
            is("in his row", x.misread(0, 1, 0, 1), 1);
        }
    }

    // ---- 19 bargain

    /** Both mean the first thing by 1, 0 and the second by 1, -1; by 5, -1 person 0 alone means the first. */
    private static PointingArms dealers() {
        return peopleAt(with("10,10,2;10,0,2"), 0, 10, 0, 9);
    }

    static void promise19_each_must_be_there() {
        refusedBeside("p", 0, 3, (x, v) -> x.bargain(v, 1, 0, 1, 1, 0), BAD);
        refusedBeside("q", 0, 3, (x, v) -> x.bargain(1, 1, 0, v, 1, 0), BAD);
        same("the first and the last", x -> x.bargain(0, 1, 0, 3, 1, 0), NOT);
        same("the last and the first", x -> x.bargain(3, 1, 0, 0, 1, 0), NOT);
    }

    static void promise19_one_and_the_same_is_bad_before_not() {
        for (int i = 0; i < 4; i++) {
            int one = i;
            same("with oneself " + i, x -> x.bargain(one, 1, 0, one, 0, -1), BAD);
        }
        is("though each means one", dealers().bargain(0, 1, 0, 0, 1, -1), BAD);
    }

    static void promise19_each_arm_is_minus_9_to_9_not_both_0() {
        answeredForArms("p's", (x, dx, dy) -> x.bargain(0, dx, dy, 3, 1, 0));
        answeredForArms("q's", (x, dx, dy) -> x.bargain(0, 1, 0, 3, dx, dy));
    }

    static void promise19_the_first_digit_is_p_s() {
        is("0 and 1", dealers().bargain(0, 1, 0, 1, 1, -1), 1);
        is("1 and 0", dealers().bargain(0, 1, -1, 1, 1, 0), 10);
        is("the other way round", dealers().bargain(1, 1, 0, 0, 1, -1), 1);
    }

    static void promise19_the_last_things_are_8_and_9() {
        PointingArms x = new PointingArms();
        for (int i = 0; i < 8; i++) {
            x.thing(20, 20, 0);
        }
        x.thing(10, 10, 2);
        x.thing(10, 0, 2);
        peopleAt(x, 0, 10, 0, 9);
        is("8 and 9", x.bargain(0, 1, 0, 1, 1, -1), 89);
        is("9 and 8", x.bargain(0, 1, -1, 1, 1, 0), 98);
    }

    static void promise19_over_the_same_thing_it_is_not_agreed() {
        is("the first", dealers().bargain(0, 1, 0, 1, 1, 0), NOT);
        is("the second", dealers().bargain(0, 1, -1, 1, 1, -1), NOT);
    }

    static void promise19_an_arm_that_means_none_is_not_agreed() {
        is("p's", dealers().bargain(0, -1, 0, 1, 1, -1), NOT);
        is("q's", dealers().bargain(0, 1, 0, 1, -1, 0), NOT);
        is("both", dealers().bargain(0, -1, 0, 1, 0, 1), NOT);
    }

    static void promise19_an_arm_that_means_two_is_not_agreed() {
        PointingArms x = dealers();
        x.thing(15, 10, 1);
        is("p's", x.bargain(0, 1, 0, 1, 1, -1), NOT);
        is("q's", x.bargain(0, 1, -1, 1, 1, 0), NOT);
        x.rule(0, 1);
        is("by law the first", x.bargain(0, 1, 0, 1, 1, -1), 1);
    }

    static void promise19_if_the_other_one_misreads_it_is_not_agreed() {
        is("q does not see p's", dealers().bargain(0, 5, -1, 1, 1, -1), NOT);
        is("p does not see q's", dealers().bargain(1, 1, -1, 0, 5, -1), NOT);
        PointingArms x = peopleAt(with("10,10,0;10,9,0;20,0,5"), 0, 10, 0, 9);
        is("each takes the other's for the own", x.bargain(0, 1, 0, 1, 1, 0), NOT);
    }

    static void promise19_if_the_other_one_takes_it_for_two_it_is_not_agreed() {
        PointingArms x = dealers();
        x.thing(16, 9, 0);
        is("q takes p's for two", x.bargain(0, 1, 0, 1, 1, -1), NOT);
        is("p takes q's for two", x.bargain(1, 1, -1, 0, 1, 0), NOT);
    }

    static void promise19_it_is_tick_0() {
        for (int v = -1; v <= 1; v += 2) {
            PointingArms x = peopleAt(with("10,10,0;10,0,0"), 0, 10, 0, 10);
            x.make(0, 4, v);
            x.make(1, 4, v);
            is("agreed", x.bargain(0, 1, 0, 1, 1, -1), 1);
            is("agreed the other way", x.bargain(0, 1, -1, 1, 1, 0), 10);
        }
    }
}
