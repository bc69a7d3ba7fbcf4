/** Boundary cases of promises 31 to 35: sheets. */
final class Part4EdgeTest extends Edges {
    public static void main(String[] args) throws IllegalAccessException {
        runAll(Part4EdgeTest.class, 31, 35);
    }

    /** One thing and one in the middle: an arm is known by where the thing must be for it. */
    private static PointingArms reader() {
        PointingArms x = with("11,10,0");
        x.person(10, 10);
        return x;
    }

    /** That the two items from i on are dx, dy, or a longer arm that way. */
    private static void holds(String call, PointingArms x, int[] where, int dx, int dy) {
        x.make(0, 0, 10 + dx);
        x.make(0, 1, 10 + dy);
        is(call + " holds " + dx + ", " + dy, x.clears(0, where[0], where[1], where[2], 1), 1);
    }

    private static int[] from(int sheet, int lane, int i) {
        return new int[] {sheet, lane, i};
    }

    private static void fill(PointingArms x, int sheet, int lane, long... items) {
        x.sheet(sheet, lane, items.length);
        for (int i = 0; i < items.length; i++) {
            is("item " + i, x.item(sheet, lane, i, items[i]), 1);
        }
    }

    // ---- 31 clears

    static void promise31_he_must_be_there() {
        answeredFrom("person", 0, 3, (x, v) -> x.clears(v, 1, 1, 0, 1));
    }

    static void promise31_there_are_sheets_0_to_3() {
        same("the first", x -> x.clears(0, 0, 0, 0, 1), 1);
        same("the last, which is nothing", x -> x.clears(0, 3, 0, 0, 1), NULL);
        refusedBeside("sheet", 0, 3, (x, v) -> x.clears(0, v, 0, 0, 1), BAD);
    }

    static void promise31_there_are_lanes_0_to_2() {
        same("0 of shorts", x -> x.clears(0, 0, 0, 0, 1), 1);
        same("2 of longs", x -> x.clears(0, 2, 2, 0, 1), 0);
        refusedBeside("lane", 0, 2, (x, v) -> x.clears(0, 0, v, 0, 1), BAD);
    }

    static void promise31_n_is_1_to_12() {
        same("1", x -> x.clears(0, 1, 1, 0, 1), 1);
        refusedBeside("n", 1, 12, (x, v) -> x.clears(0, 1, 1, 0, v), BAD);
        PointingArms x = reader();
        x.sheet(0, 1, 24);
        for (int i = 0; i < 24; i += 2) {
            x.item(0, 1, i, 1);
        }
        is("12", x.clears(0, 0, 1, 0, 12), 12);
        is("13", x.clears(0, 0, 1, 0, 13), BAD);
        is("11 from the third item on", x.clears(0, 0, 1, 2, 11), 11);
    }

    static void promise31_i_is_from_0_on() {
        same("-1", x -> x.clears(0, 1, 1, -1, 1), INDEX);
        same("lowest", x -> x.clears(0, 1, 1, LOWEST, 1), INDEX);
        same("lowest of twelve", x -> x.clears(0, 1, 1, LOWEST, 12), INDEX);
    }

    static void promise31_two_items_each_up_to_the_end() {
        same("the last two", x -> x.clears(0, 1, 1, 2, 1), 0);
        same("all but two", x -> x.clears(0, 1, 1, 0, 2), 1);
        PointingArms x = reader();
        fill(x, 0, 1, 0, 1, 0, 1, 0);
        is("up to the end", x.clears(0, 0, 1, 1, 2), 2);
        is("one item beyond", x.clears(0, 0, 1, 2, 2), INDEX);
        is("one arm up to the end", x.clears(0, 0, 1, 3, 1), 1);
        is("half of an arm", x.clears(0, 0, 1, 4, 1), INDEX);
        is("at the end", x.clears(0, 0, 1, 5, 1), INDEX);
        is("highest", x.clears(0, 0, 1, HIGHEST, 1), INDEX);
        is("highest of twelve", x.clears(0, 0, 1, HIGHEST, 12), INDEX);
        is("highest but 23 of twelve", x.clears(0, 0, 1, HIGHEST - 23, 12), INDEX);
    }

    static void promise31_twelve_from_the_second_item_on_are_too_many() {
        PointingArms x = reader();
        x.sheet(0, 1, 24);
        for (int i = 0; i < 24; i++) {
            x.item(0, 1, i, 1);
        }
        is("from the first", x.clears(0, 0, 1, 0, 12), 0);
        is("from the second", x.clears(0, 0, 1, 1, 12), INDEX);
    }

    static void promise31_of_an_empty_sheet_there_is_none() {
        PointingArms x = reader();
        x.sheet(0, 1, 0);
        is("empty", x.clears(0, 0, 1, 0, 1), INDEX);
        x.sheet(0, 1, 1);
        is("one item", x.clears(0, 0, 1, 0, 1), INDEX);
        x.sheet(0, 1, 2);
        is("two items, both 0", x.clears(0, 0, 1, 0, 1), NOT);
    }

    static void promise31_an_arm_is_minus_9_to_9_not_both_0() {
        PointingArms x = reader();
        int[][] arms = {{9, 9}, {-9, -9}, {9, -9}, {-9, 9}, {0, 9}, {-9, 0}};
        for (int[] arm : arms) {
            fill(x, 2, 2, arm[0], arm[1]);
            holds("the farthest", x, from(2, 2, 0), arm[0], arm[1]);
        }
        long[][] none = {{0, 0}, {10, 1}, {1, 10}, {-10, 1}, {1, -10}, {1L << 32, 1}, {1, 1L << 32}, {(1L << 32) + 1, 0},
            {Long.MAX_VALUE, 1}, {Long.MIN_VALUE, 1}, {1, Long.MIN_VALUE}, {LOWEST, 1}, {65537, 0}};
        for (long[] arm : none) {
            fill(x, 2, 2, arm);
            is(arm[0] + ", " + arm[1], x.clears(0, 2, 2, 0, 1), NOT);
        }
    }

    static void promise31_if_any_is_none_it_is_not() {
        for (int none = 0; none < 3; none++) {
            PointingArms x = reader();
            fill(x, 0, 0, 1, 0, 1, 0, 1, 0);
            is("all are arms", x.clears(0, 0, 0, 0, 3), 3);
            x.item(0, 0, 2 * none, 0);
            is("number " + none + " is none", x.clears(0, 0, 0, 0, 3), NOT);
        }
        same("the last is none", x -> x.clears(0, 1, 1, 0, 3), NOT);
    }

    static void promise31_only_those_asked_must_be_arms() {
        PointingArms x = reader();
        fill(x, 0, 1, 0, 0, 1, 0, 0, 0);
        is("that between", x.clears(0, 0, 1, 2, 1), 1);
    }

    static void promise31_clear_is_one_thing_alone() {
        PointingArms x = with("15,10,0;18,10,0;10,15,0");
        x.person(10, 10);
        fill(x, 0, 1, 1, 0, 0, 1, -1, 0);
        is("two, one, none", x.clears(0, 0, 1, 0, 3), 1);
        x.rule(0, 1);
        is("by law the first of two", x.clears(0, 0, 1, 0, 3), 2);
        x.make(2, 4, 3);
        x.make(0, 4, 3);
        is("at tick 0", x.clears(0, 0, 1, 0, 3), 2);
    }

    static void promise31_bad_comes_before_null() {
        same("person", x -> x.clears(4, 3, 0, 0, 1), BAD);
        same("lane", x -> x.clears(0, 3, 3, 0, 1), BAD);
        same("n", x -> x.clears(0, 3, 0, 0, 13), BAD);
    }

    static void promise31_null_comes_before_index() {
        same("i", x -> x.clears(0, 3, 0, -1, 1), NULL);
        same("n", x -> x.clears(0, 3, 2, 0, 12), NULL);
    }

    static void promise31_cast_comes_before_index() {
        same("shorts as ints", x -> x.clears(0, 0, 1, -1, 1), CAST);
        same("ints as longs", x -> x.clears(0, 1, 2, 0, 12), CAST);
        same("longs as shorts", x -> x.clears(0, 2, 0, 9, 1), CAST);
    }

    static void promise31_bad_comes_before_cast_and_index() {
        same("person", x -> x.clears(-1, 0, 1, -1, 1), BAD);
        same("n", x -> x.clears(0, 0, 1, -1, 0), BAD);
    }

    static void promise31_index_comes_before_not() {
        same("the first two of four are none", x -> x.clears(0, 1, 1, 4, 2), INDEX);
        same("the first two are none", x -> x.clears(0, 1, 1, 4, 1), NOT);
    }

    // ---- 32 sheet

    static void promise32_there_are_sheets_0_to_3() {
        is("0", herd().sheet(0, 0, 3), 3);
        is("3", herd().sheet(3, 0, 3), 3);
        refusedBeside("sheet", 0, 3, (x, v) -> x.sheet(v, 0, 3), BAD);
    }

    static void promise32_there_are_lanes_0_to_2() {
        for (int lane = 0; lane < 3; lane++) {
            PointingArms x = herd();
            is("lane " + lane, x.sheet(3, lane, 3), 3);
            for (int other = 0; other < 3; other++) {
                is("taken as lane " + other, x.item(3, other, 0, 1), other == lane ? 1 : CAST);
            }
        }
        refusedBeside("lane", 0, 2, (x, v) -> x.sheet(3, v, 3), BAD);
    }

    static void promise32_n_is_0_to_24() {
        PointingArms x = herd();
        is("0", x.sheet(3, 1, 0), 0);
        is("no item", x.item(3, 1, 0, 1), INDEX);
        is("24", x.sheet(3, 1, 24), 24);
        is("the last item", x.item(3, 1, 23, 1), 1);
        is("beyond it", x.item(3, 1, 24, 1), INDEX);
        same("25", y -> y.sheet(0, 1, 25), BAD);
        same("highest", y -> y.sheet(0, 1, HIGHEST), BAD);
        same("-1", y -> y.sheet(0, 1, -1), SIZE);
        same("lowest", y -> y.sheet(0, 1, LOWEST), SIZE);
    }

    static void promise32_bad_comes_before_size() {
        same("sheet above", x -> x.sheet(4, 0, -1), BAD);
        same("sheet below", x -> x.sheet(-1, 0, -1), BAD);
        same("lane above", x -> x.sheet(0, 3, -1), BAD);
        same("lane below", x -> x.sheet(0, -1, -1), BAD);
    }

    static void promise32_an_empty_one_is_not_nothing() {
        PointingArms x = herd();
        x.sheet(3, 2, 0);
        is("taken as another lane", x.item(3, 1, 0, 1), CAST);
        is("drop", x.drop(3), 0);
        is("drop again", x.drop(3), NULL);
    }

    static void promise32_a_new_row_is_of_noughts() {
        PointingArms x = reader();
        fill(x, 0, 1, 1, 0, 1, 0);
        is("as filled", x.clears(0, 0, 1, 0, 2), 2);
        x.sheet(0, 1, 4);
        for (int i = 0; i < 3; i++) {
            is("noughts at " + i, x.clears(0, 0, 1, i, 1), NOT);
        }
        fill(x, 0, 1, 1, 0, 1, 0);
        x.sheet(0, 1, 1);
        x.sheet(0, 1, 4);
        is("noughts where a longer one was", x.clears(0, 0, 1, 2, 1), NOT);
        fill(x, 0, 1, 1, 0);
        x.drop(0);
        x.sheet(0, 1, 2);
        is("noughts where one was dropped", x.clears(0, 0, 1, 0, 1), NOT);
    }

    static void promise32_it_is_in_place_of_what_was_there() {
        PointingArms x = herd();
        is("longs where shorts were", x.sheet(0, 2, 1), 1);
        is("as shorts", x.item(0, 0, 0, 1), CAST);
        is("as longs", x.item(0, 2, 0, 1), 1);
        is("the old second item", x.item(0, 2, 1, 1), INDEX);
        is("the others stay", x.drop(1), 6);
        is("drop", x.drop(0), 1);
    }

    // ---- 33 drop

    static void promise33_there_are_sheets_0_to_3() {
        is("0", herd().drop(0), 4);
        is("2", herd().drop(2), 2);
        same("3, which is nothing", x -> x.drop(3), NULL);
        refusedBeside("sheet", 0, 3, PointingArms::drop, BAD);
    }

    static void promise33_it_is_nothing_then() {
        PointingArms x = herd();
        is("drop", x.drop(1), 6);
        is("again", x.drop(1), NULL);
        is("item", x.item(1, 1, 0, 1), NULL);
        is("clears", x.clears(0, 1, 1, 0, 1), NULL);
        is("copy from it", x.copy(1, 0, 0, 0, 1), NULL);
        is("copy to it", x.copy(0, 0, 1, 0, 1), NULL);
        is("the others stay", x.drop(0), 4);
        is("a new one", x.sheet(1, 2, 3), 3);
        is("it is there", x.drop(1), 3);
    }

    static void promise33_it_had_0_to_24_items() {
        PointingArms x = herd();
        x.sheet(0, 0, 24);
        is("24", x.drop(0), 24);
        x.sheet(0, 0, 0);
        is("0", x.drop(0), 0);
    }

    // ---- 34 item

    static void promise34_there_are_sheets_0_to_3() {
        is("0", herd().item(0, 0, 0, 1), 1);
        same("3, which is nothing", x -> x.item(3, 0, 0, 1), NULL);
        refusedBeside("sheet", 0, 3, (x, v) -> x.item(v, 0, 0, 7), BAD);
    }

    static void promise34_there_are_lanes_0_to_2() {
        same("shorts as 1", x -> x.item(0, 1, 0, 7), CAST);
        same("shorts as 2", x -> x.item(0, 2, 0, 7), CAST);
        same("longs as 0", x -> x.item(2, 0, 0, 7), CAST);
        refusedBeside("lane", 0, 2, (x, v) -> x.item(0, v, 0, 7), BAD);
    }

    static void promise34_i_is_0_to_below_its_length() {
        is("the first", herd().item(1, 1, 0, 1), 1);
        is("the last", herd().item(1, 1, 5, 1), 1);
        refusedBeside("i", 0, 5, (x, v) -> x.item(1, 1, v, 7), INDEX);
    }

    static void promise34_bad_null_cast_index_in_this_order() {
        same("bad before null", x -> x.item(3, 3, -1, 7), BAD);
        same("bad before cast and index", x -> x.item(4, 1, -1, 7), BAD);
        same("null before index", x -> x.item(3, 1, -1, 7), NULL);
        same("cast before index", x -> x.item(0, 1, -1, 7), CAST);
        same("cast before index at the end", x -> x.item(0, 2, 4, 7), CAST);
    }

    static void promise34_just_that_item_becomes_v() {
        for (int i = 0; i < 4; i++) {
            PointingArms x = reader();
            fill(x, 0, 1, 1, 2, 3, 4);
            x.item(0, 1, i, -5);
            int[] want = {1, 2, 3, 4};
            want[i] = -5;
            for (int k = 0; k < 3; k++) {
                holds("item " + i, x, from(0, 1, k), want[k], want[k + 1]);
            }
        }
    }

    static void promise34_of_shorts_the_lowest_16_bits() {
        PointingArms x = reader();
        fill(x, 0, 0, 65536 + 9, -65536 - 9);
        holds("above and below", x, from(0, 0, 0), 9, -9);
        fill(x, 0, 0, 65535, 65536);
        holds("65535 is -1, 65536 is 0", x, from(0, 0, 0), -1, 0);
        fill(x, 0, 0, (1L << 62) + 1, Long.MIN_VALUE);
        holds("of a great long", x, from(0, 0, 0), 1, 0);
        fill(x, 0, 0, 32767, 1);
        is("32767 is no arm's", x.clears(0, 0, 0, 0, 1), NOT);
        fill(x, 0, 0, 32768, 1);
        is("32768 is no arm's", x.clears(0, 0, 0, 0, 1), NOT);
    }

    static void promise34_of_ints_the_lowest_32_bits() {
        PointingArms x = reader();
        fill(x, 0, 1, (1L << 32) + 9, -(1L << 32) - 9);
        holds("above and below", x, from(0, 1, 0), 9, -9);
        fill(x, 0, 1, (1L << 32) - 1, 1L << 32);
        holds("just below is -1, just that is 0", x, from(0, 1, 0), -1, 0);
        fill(x, 0, 1, 65537, 0);
        is("65537 is not cut", x.clears(0, 0, 1, 0, 1), NOT);
    }

    static void promise34_of_longs_all_bits() {
        PointingArms x = reader();
        fill(x, 0, 2, (1L << 32) + 1, 0);
        is("above", x.clears(0, 0, 2, 0, 1), NOT);
        fill(x, 0, 2, 1, Long.MIN_VALUE);
        is("the highest bit", x.clears(0, 0, 2, 0, 1), NOT);
        fill(x, 0, 2, -1L, 9);
        holds("-1, 9", x, from(0, 2, 0), -1, 9);
    }

    // ---- 35 copy

    static void promise35_there_are_sheets_0_to_3() {
        is("0 to itself", herd().copy(0, 0, 0, 0, 1), 1);
        same("3, which is nothing", x -> x.copy(3, 0, 0, 0, 1), NULL);
        same("to 3, which is nothing", x -> x.copy(0, 0, 3, 0, 1), NULL);
        refusedBeside("from", 0, 3, (x, v) -> x.copy(v, 0, 0, 0, 1), BAD);
        refusedBeside("to", 0, 3, (x, v) -> x.copy(0, 0, v, 0, 1), BAD);
    }

    static void promise35_bad_comes_before_null() {
        same("from nothing to none", x -> x.copy(3, 0, 4, 0, 1), BAD);
        same("from none to nothing", x -> x.copy(-1, 0, 3, 0, 1), BAD);
    }

    static void promise35_null_comes_before_cast_and_index() {
        same("from nothing", x -> x.copy(3, -1, 0, 0, 1), NULL);
        same("to nothing", x -> x.copy(0, -1, 3, 0, 1), NULL);
        same("from nothing to nothing", x -> x.copy(3, 0, 3, 0, -1), NULL);
        same("none of nothing", x -> x.copy(3, 0, 0, 0, 0), NULL);
    }

    static void promise35_cast_comes_before_index() {
        same("shorts to ints", x -> x.copy(0, -1, 1, 0, 1), CAST);
        same("ints to longs", x -> x.copy(1, 0, 2, 9, 1), CAST);
        same("longs to shorts", x -> x.copy(2, 0, 0, 0, -1), CAST);
        same("none of them", x -> x.copy(0, 0, 1, 0, 0), CAST);
    }

    static void promise35_n_is_from_0_on() {
        same("none", x -> x.copy(1, 0, 1, 3, 0), 0);
        same("-1", x -> x.copy(1, 0, 1, 0, -1), INDEX);
        same("-1 from within", x -> x.copy(1, 3, 1, 3, -1), INDEX);
        same("lowest", x -> x.copy(1, 0, 1, 0, LOWEST), INDEX);
        same("all, onto themselves", x -> x.copy(1, 0, 1, 0, 6), 6);
        same("one more than all", x -> x.copy(1, 0, 1, 0, 7), INDEX);
        same("highest", x -> x.copy(1, 0, 1, 0, HIGHEST), INDEX);
    }

    static void promise35_i_goes_from_0_to_the_end() {
        same("-1", x -> x.copy(1, -1, 1, 0, 1), INDEX);
        same("-1, none", x -> x.copy(1, -1, 1, 0, 0), INDEX);
        same("the last item onto itself", x -> x.copy(1, 5, 1, 5, 1), 1);
        same("one beyond", x -> x.copy(1, 6, 1, 5, 1), INDEX);
        same("none at the end", x -> x.copy(1, 6, 1, 0, 0), 0);
        same("none beyond the end", x -> x.copy(1, 7, 1, 0, 0), INDEX);
        same("highest", x -> x.copy(1, HIGHEST, 1, 0, 1), INDEX);
        same("highest, highest many", x -> x.copy(1, HIGHEST, 1, 0, HIGHEST), INDEX);
        same("lowest", x -> x.copy(1, LOWEST, 1, 0, 1), INDEX);
    }

    static void promise35_j_goes_from_0_to_the_end() {
        same("-1", x -> x.copy(1, 0, 1, -1, 1), INDEX);
        same("-1, none", x -> x.copy(1, 0, 1, -1, 0), INDEX);
        same("one beyond", x -> x.copy(1, 5, 1, 6, 1), INDEX);
        same("none at the end", x -> x.copy(1, 0, 1, 6, 0), 0);
        same("none beyond the end", x -> x.copy(1, 0, 1, 7, 0), INDEX);
        same("highest", x -> x.copy(1, 0, 1, HIGHEST, 1), INDEX);
        same("highest, highest many", x -> x.copy(1, 0, 1, HIGHEST, HIGHEST), INDEX);
        same("lowest", x -> x.copy(1, 0, 1, LOWEST, 1), INDEX);
    }

    static void promise35_each_side_has_an_end_of_its_own() {
        PointingArms x = reader();
        x.sheet(0, 1, 5);
        x.sheet(1, 1, 3);
        is("all of the shorter one", x.copy(1, 0, 0, 0, 3), 3);
        is("to the end of the longer one", x.copy(1, 0, 0, 2, 3), 3);
        is("beyond the longer one", x.copy(1, 0, 0, 3, 3), INDEX);
        is("too many for the shorter one", x.copy(0, 0, 1, 0, 4), INDEX);
        is("the end of the longer one", x.copy(0, 2, 1, 0, 3), 3);
        is("too many from the shorter one", x.copy(1, 0, 0, 0, 4), INDEX);
    }

    static void promise35_empty_sheets_give_and_take_none() {
        PointingArms x = reader();
        x.sheet(0, 1, 0);
        x.sheet(1, 1, 0);
        is("none", x.copy(0, 0, 1, 0, 0), 0);
        is("one", x.copy(0, 0, 1, 0, 1), INDEX);
    }

    static void promise35_just_n_items_change() {
        PointingArms x = reader();
        fill(x, 0, 1, 1, 2, 3, 4);
        fill(x, 1, 1, -1, -2, -3, -4);
        is("two of them", x.copy(0, 1, 1, 1, 2), 2);
        int[] there = {-1, 2, 3, -4};
        int[] here = {1, 2, 3, 4};
        for (int i = 0; i < 3; i++) {
            holds("there", x, from(1, 1, i), there[i], there[i + 1]);
            holds("here", x, from(0, 1, i), here[i], here[i + 1]);
        }
    }

    static void promise35_all_24_of_each_lane() {
        for (int lane = 0; lane < 3; lane++) {
            PointingArms x = reader();
            x.sheet(0, lane, 24);
            x.sheet(3, lane, 24);
            for (int i = 0; i < 24; i += 2) {
                x.item(0, lane, i, 1);
            }
            is("noughts before", x.clears(0, 3, lane, 22, 1), NOT);
            is("copy", x.copy(0, 0, 3, 0, 24), 24);
            is("all arms there", x.clears(0, 3, lane, 0, 12), 12);
        }
    }

    static void promise35_upwards_onto_itself_as_if_taken_ahead() {
        PointingArms x = reader();
        fill(x, 0, 1, 1, 2, 3, 4, 5);
        is("one up", x.copy(0, 0, 0, 1, 4), 4);
        int[] want = {1, 1, 2, 3, 4};
        for (int i = 0; i < 4; i++) {
            holds("one up", x, from(0, 1, i), want[i], want[i + 1]);
        }
    }

    static void promise35_downwards_onto_itself_as_if_taken_ahead() {
        PointingArms x = reader();
        fill(x, 0, 1, 1, 2, 3, 4, 5);
        is("one down", x.copy(0, 1, 0, 0, 4), 4);
        int[] want = {2, 3, 4, 5, 5};
        for (int i = 0; i < 4; i++) {
            holds("one down", x, from(0, 1, i), want[i], want[i + 1]);
        }
    }
}
