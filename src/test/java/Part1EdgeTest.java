/** Boundary cases of promises 1 to 11: things, people, laws, the tape and its texts. */
final class Part1EdgeTest extends Edges {
    public static void main(String[] args) throws IllegalAccessException {
        runAll(Part1EdgeTest.class, 1, 11);
    }

    // ---- 1 a new object

    static void promise01_nothing_is_counted() {
        PointingArms x = new PointingArms();
        for (int what = 0; what <= 5; what++) {
            is("count " + what, x.count(what), 0);
        }
    }

    static void promise01_law_0_is_0_at_first_and_law_1_is_1() {
        PointingArms x = new PointingArms();
        is("law 0", x.rule(0, 0), 0);
        is("law 1", x.rule(1, 1), 1);
    }

    static void promise01_the_tape_is_empty() {
        is("things", new PointingArms().things(), -20);
        is("talk", new PointingArms().talk(), -20);
        is("the first byte", new PointingArms().type('1', 1), 1);
    }

    static void promise01_there_is_no_image() {
        is("restore", new PointingArms().restore(), NONE);
    }

    static void promise01_sheets_are_nothing() {
        for (int sheet = 0; sheet < 4; sheet++) {
            is("drop " + sheet, new PointingArms().drop(sheet), NULL);
            is("item " + sheet, new PointingArms().item(sheet, 0, 0, 1), NULL);
        }
    }

    static void promise01_on_an_empty_ground_nothing_is_met_or_said() {
        PointingArms x = new PointingArms();
        is("meets", x.meets(10, 10, 1, 0), 0);
        is("dark", x.dark(0), 0);
        is("says", x.says(0, 0), BAD);
        is("clear", x.clear(), 0);
        is("means", x.means(0, 1, 0, 0), BAD);
        is("market", x.market(1, 0, 0, -1), NOT);
    }

    static void promise01_he_could_stand_anywhere_if_nothing_is_told() {
        PointingArms x = new PointingArms();
        is("how many", x.stood(0), 441);
        is("x", x.stood(1), 0);
        is("y", x.stood(2), 0);
    }

    static void promise01_another_object_is_empty_still() {
        full();
        PointingArms x = new PointingArms();
        for (int what = 0; what <= 5; what++) {
            is("count " + what, x.count(what), 0);
        }
        is("the tape", x.type('1', 1), 1);
        is("restore", x.restore(), NONE);
        is("drop", x.drop(0), NULL);
    }

    // ---- 2 thing

    private static void isThing(int x, int y, int breadth) {
        PointingArms arms = herd();
        is("thing " + x + ", " + y + ", " + breadth, arms.thing(x, y, breadth), 5);
        is("its x", arms.at(5, 0, 0), x);
        is("its y", arms.at(5, 0, 1), y);
        is("its breadth", arms.make(5, 2, 0), breadth);
        is("count", arms.count(0), 6);
    }

    static void promise02_x_is_0_to_20() {
        isThing(0, 5, 1);
        isThing(20, 5, 1);
        refusedBeside("x", 0, 20, (x, v) -> x.thing(v, 5, 1), BAD);
    }

    static void promise02_y_is_0_to_20() {
        isThing(5, 0, 1);
        isThing(5, 20, 1);
        refusedBeside("y", 0, 20, (x, v) -> x.thing(5, v, 1), BAD);
    }

    static void promise02_breadth_is_0_to_5() {
        isThing(6, 7, 0);
        isThing(6, 7, 5);
        refusedBeside("breadth", 0, 5, (x, v) -> x.thing(5, 5, v), BAD);
    }

    static void promise02_numbers_are_0_to_9_as_they_come() {
        PointingArms x = new PointingArms();
        for (int i = 0; i < 10; i++) {
            is("thing " + i, x.thing(i, i, 0), i);
        }
    }

    static void promise02_the_eleventh_is_full() {
        leaves(Edges::full, "thing", x -> x.thing(1, 1, 1), FULL);
    }

    static void promise02_bad_comes_before_full() {
        leaves(Edges::full, "x", x -> x.thing(21, 1, 1), BAD);
        leaves(Edges::full, "y", x -> x.thing(1, -1, 1), BAD);
        leaves(Edges::full, "breadth", x -> x.thing(1, 1, 6), BAD);
    }

    static void promise02_two_may_have_one_middle() {
        PointingArms x = with("4,5,1");
        is("another one there", x.thing(4, 5, 1), 1);
        is("both are met", x.meets(0, 5, 1, 0), 3);
    }

    static void promise02_it_goes_nowhere_at_first() {
        PointingArms x = with("4,5,1;6,7,2");
        x.make(1, 3, 3);
        x.make(1, 4, -3);
        Due.things(x, "4,5,1");
        is("a new one where one was that went", x.thing(8, 9, 0), 1);
        is("x at the last tick", x.at(1, 60, 0), 8);
        is("y at the last tick", x.at(1, 60, 1), 9);
        is("vx", x.make(1, 3, 0), 0);
        is("vy", x.make(1, 4, 0), 0);
    }

    // ---- 3 make

    private static void isMade(int what, int low, int high, int was) {
        PointingArms x = herd();
        is(what + " low", x.make(0, what, low), was);
        is(what + " high", x.make(0, what, high), low);
        is(what + " as it was", x.make(0, what, was), high);
        is(what + " once more", x.make(0, what, was), was);
        refusedBeside("make " + what, low, high, (y, v) -> y.make(0, what, v), LESS_BAD);
    }

    static void promise03_x_is_0_to_20() {
        isMade(0, 0, 20, 10);
    }

    static void promise03_y_is_0_to_20() {
        isMade(1, 0, 20, 10);
    }

    static void promise03_breadth_is_0_to_5() {
        isMade(2, 0, 5, 2);
    }

    static void promise03_vx_is_minus_3_to_3() {
        isMade(3, -3, 3, 1);
    }

    static void promise03_vy_is_minus_3_to_3() {
        isMade(4, -3, 3, 0);
    }

    static void promise03_what_is_0_to_4() {
        refusedBeside("what", 0, 4, (x, v) -> x.make(0, v, 0), LESS_BAD);
    }

    static void promise03_the_thing_must_be_there() {
        is("the first", herd().make(0, 0, 1), 10);
        is("the last", herd().make(4, 0, 1), 18);
        refusedBeside("thing", 0, 4, (x, v) -> x.make(v, 0, 1), LESS_BAD);
        is("none at all", new PointingArms().make(0, 0, 1), LESS_BAD);
        is("the last of ten", full().make(9, 0, 1), 18);
        is("beyond ten", full().make(10, 0, 1), LESS_BAD);
    }

    static void promise03_what_it_was_may_be_below_0() {
        PointingArms x = herd();
        for (int v = -3; v <= 3; v++) {
            x.make(2, 4, v);
            is("it was " + v, x.make(2, 4, 0), v);
        }
    }

    static void promise03_no_other_number_and_no_other_thing_changes() {
        int[] was = {15, 10, 1, 0, -1};
        for (int what = 0; what < 5; what++) {
            PointingArms x = herd();
            x.make(0, what, 3);
            x.make(2, what, 3);
            for (int other = 0; other < 5; other++) {
                is("made " + what + ": " + other + " of the one between", x.make(1, other, 0), was[other]);
            }
            int[] own = {10, 10, 2, 1, 0};
            for (int other = 0; other < 5; other++) {
                is("made " + what + ": its " + other, x.make(0, other, 0), other == what ? 3 : own[other]);
            }
        }
    }

    // ---- 4 at

    static void promise04_the_tick_is_0_to_60() {
        is("at 0", herd().at(4, 0, 1), 18);
        is("at 60", herd().at(4, 60, 1), 18 - 180);
        refusedBeside("tick", 0, 60, (x, v) -> x.at(4, v, 1), LESS_BAD);
    }

    static void promise04_what_is_0_or_1() {
        same("x", x -> x.at(1, 2, 0), 15);
        same("y", x -> x.at(1, 2, 1), 8);
        refusedBeside("what", 0, 1, (x, v) -> x.at(1, 2, v), LESS_BAD);
    }

    static void promise04_the_thing_must_be_there() {
        is("the first", herd().at(0, 0, 0), 10);
        is("the last", herd().at(4, 0, 0), 18);
        refusedBeside("thing", 0, 4, (x, v) -> x.at(v, 0, 0), LESS_BAD);
        is("none at all", new PointingArms().at(0, 0, 0), LESS_BAD);
        is("the last of ten", full().at(9, 0, 0), 18);
        is("beyond ten", full().at(10, 0, 0), LESS_BAD);
    }

    static void promise04_it_goes_beyond_the_ground() {
        PointingArms x = with("0,0,0;20,20,0");
        for (int what = 3; what <= 4; what++) {
            x.make(0, what, -3);
            x.make(1, what, 3);
        }
        for (int what = 0; what <= 1; what++) {
            is("a step below", x.at(0, 1, what), -3);
            is("a step above", x.at(1, 1, what), 23);
            is("farthest below", x.at(0, 60, what), -180);
            is("farthest above", x.at(1, 60, what), 200);
        }
    }

    // ---- 5 person

    private static void isPerson(int x, int y) {
        PointingArms arms = herd();
        is("person " + x + ", " + y, arms.person(x, y), 4);
        is("where", arms.walk(4, 0, 0), 100 * x + y);
        is("count", arms.count(1), 5);
    }

    static void promise05_x_is_0_to_20() {
        isPerson(0, 7);
        isPerson(20, 7);
        refusedBeside("x", 0, 20, (x, v) -> x.person(v, 7), BAD);
    }

    static void promise05_y_is_0_to_20() {
        isPerson(7, 0);
        isPerson(7, 20);
        refusedBeside("y", 0, 20, (x, v) -> x.person(7, v), BAD);
    }

    static void promise05_numbers_are_0_to_5_as_they_come() {
        PointingArms x = new PointingArms();
        for (int i = 0; i < 6; i++) {
            is("person " + i, x.person(3, 3), i);
        }
    }

    static void promise05_the_seventh_is_full() {
        leaves(Edges::full, "person", x -> x.person(1, 1), FULL);
    }

    static void promise05_bad_comes_before_full() {
        leaves(Edges::full, "x", x -> x.person(-1, 1), BAD);
        leaves(Edges::full, "y", x -> x.person(1, 21), BAD);
    }

    // ---- 6 walk

    static void promise06_x_is_0_to_20() {
        PointingArms x = herd();
        is("to 0", x.walk(1, 0, 3), 2020);
        is("to 20", x.walk(1, 20, 3), 3);
        is("where then", x.walk(1, 4, 4), 2003);
        refusedBeside("x", 0, 20, (y, v) -> y.walk(1, v, 3), BAD);
    }

    static void promise06_y_is_0_to_20() {
        PointingArms x = herd();
        is("to 0", x.walk(1, 3, 0), 2020);
        is("to 20", x.walk(1, 3, 20), 300);
        is("where then", x.walk(1, 4, 4), 320);
        refusedBeside("y", 0, 20, (y, v) -> y.walk(1, 3, v), BAD);
    }

    static void promise06_he_must_be_there() {
        is("the first", herd().walk(0, 1, 1), 10);
        is("the last", herd().walk(3, 1, 1), 1009);
        refusedBeside("person", 0, 3, (x, v) -> x.walk(v, 1, 1), BAD);
        is("nobody at all", new PointingArms().walk(0, 1, 1), BAD);
        is("the last of six", full().walk(5, 1, 1), 1510);
        is("beyond six", full().walk(6, 1, 1), BAD);
    }

    static void promise06_where_it_was_is_from_0_to_2020() {
        PointingArms x = herd();
        x.walk(0, 0, 0);
        is("0, 0", x.walk(0, 20, 20), 0);
        is("20, 20", x.walk(0, 20, 20), 2020);
        is("to where one is", x.walk(0, 20, 20), 2020);
    }

    static void promise06_no_other_one_moves() {
        PointingArms x = herd();
        x.walk(1, 5, 5);
        is("before him", x.walk(0, 0, 0), 10);
        is("behind him", x.walk(2, 0, 0), 1000);
    }

    // ---- 7 rule

    static void promise07_there_are_laws_0_and_1() {
        refusedBeside("what", 0, 1, (x, v) -> x.rule(v, 1), BAD);
        refusedBeside("what", 0, 1, (x, v) -> x.rule(v, 0), BAD);
    }

    static void promise07_a_law_is_0_or_1() {
        for (int what = 0; what <= 1; what++) {
            int law = what;
            PointingArms x = herd();
            is("law " + law + " at first", x.rule(law, 1), law);
            is("law " + law + " was 1", x.rule(law, 0), 1);
            is("law " + law + " was 0", x.rule(law, 0), 0);
            refusedBeside("v of law " + law, 0, 1, (y, v) -> y.rule(law, v), BAD);
        }
    }

    static void promise07_the_other_law_stays() {
        PointingArms x = herd();
        x.rule(0, 1);
        is("law 1", x.rule(1, 0), 1);
        is("law 0", x.rule(0, 0), 1);
    }

    // ---- 8 type

    static void promise08_n_is_1_to_8() {
        is("1", herd().type(0x3131313131313131L, 1), 6);
        is("8", herd().type(0x3131313131313131L, 8), 13);
        refusedBeside("n", 1, 8, (x, v) -> x.type(0x3131313131313131L, v), BAD);
    }

    static void promise08_a_byte_is_32_to_126() {
        is("32", herd().type(32, 1), 6);
        is("126", herd().type(126, 1), 6);
        for (int one : new int[] {0, 1, 31, 127, 128, 160, 255}) {
            same("byte " + one, x -> x.type(one, 1), BAD);
        }
    }

    static void promise08_each_of_the_n_bytes_is_asked() {
        for (int place = 0; place < 8; place++) {
            for (long one : new long[] {0, 31, 127, 128, 255}) {
                long w = 0x3131313131313131L & ~(255L << 8 * place) | one << 8 * place;
                same("byte " + one + " at " + place, x -> x.type(w, 8), BAD);
            }
        }
    }

    static void promise08_a_byte_above_the_n_lowest_is_not_asked() {
        for (int n = 1; n < 8; n++) {
            long w = 0x3131313131313131L & ~(255L << 8 * n);
            is("a 0 above " + n, herd().type(w, n), 5 + n);
            is("a 255 above " + n, herd().type(w | 255L << 8 * n, n), 5 + n);
            is("a 0 among " + (n + 1), herd().type(w, n + 1), BAD);
        }
    }

    static void promise08_the_highest_comes_first() {
        PointingArms x = new PointingArms();
        is("8 bytes", x.type(0x31322C31332C343BL, 8), 8);
        is("3 bytes", x.type(0x372C38L, 3), 11);
        is("2 bytes", x.type(0xFFFF2C35L, 2), 13);
        is("12,13,4;7,8,5", x.things(), 2);
        int[] want = {12, 13, 7, 8};
        for (int i = 0; i < 4; i++) {
            is("number " + i, x.at(i / 2, 0, i % 2), want[i]);
        }
        is("the last of the first 8", x.make(0, 2, 0), 4);
        is("the last of all", x.make(1, 2, 0), 5);
    }

    private static void tapeOf(PointingArms x, int bytes) {
        for (int i = 0; i < bytes; i++) {
            x.type(' ', 1);
        }
    }

    static void promise08_the_hundredth_is_taken() {
        PointingArms x = new PointingArms();
        tapeOf(x, 99);
        is("the hundredth", x.type('1', 1), 100);
        is("all are read", x.things(), -120);
        PointingArms y = new PointingArms();
        tapeOf(y, 92);
        is("8 up to a hundred", y.type(0x2020202020202020L, 8), 100);
    }

    static void promise08_the_hundred_and_first_is_full() {
        leaves(x -> tapeOf(x, 100), "at 100", x -> x.type('1', 1), FULL);
        leaves(x -> tapeOf(x, 99), "two at 99", x -> x.type(0x3131L, 2), FULL);
        leaves(x -> tapeOf(x, 93), "eight at 93", x -> x.type(0x3131313131313131L, 8), FULL);
    }

    static void promise08_behind_full_what_fits_is_taken() {
        PointingArms x = new PointingArms();
        tapeOf(x, 93);
        is("eight at 93", x.type(0x3131313131313131L, 8), FULL);
        is("seven at 93", x.type(0x31313131313131L, 7), 100);
    }

    static void promise08_bad_comes_before_full() {
        leaves(x -> tapeOf(x, 100), "a byte", x -> x.type(127, 1), BAD);
        leaves(x -> tapeOf(x, 100), "n 0", x -> x.type('1', 0), BAD);
        leaves(x -> tapeOf(x, 100), "n 9", x -> x.type(0x3131313131313131L, 9), BAD);
    }

    // ---- 9 things

    /** A fault at a place: those told stay, and the tape is empty then. */
    private static void faultOfThings(String text, int place) {
        PointingArms x = herd();
        x.talk();
        is("'" + text + "'", Due.things(x, text), -20 - place);
        is("'" + text + "' leaves how many there are", x.count(0), 5);
        is("'" + text + "' leaves where they are", x.at(4, 0, 0), 18);
        is("'" + text + "' leaves how they go", x.at(4, 1, 1), 15);
        is("'" + text + "' leaves their breadth", x.make(3, 2, 0), 3);
        is("'" + text + "' leaves no tape", x.type(' ', 1), 1);
    }

    private static PointingArms thingsOf(String text, int many) {
        PointingArms x = herd();
        x.talk();
        is("'" + text + "'", Due.things(x, text), many);
        is("'" + text + "' counted", x.count(0), many);
        is("'" + text + "' leaves no tape", x.type(' ', 1), 1);
        return x;
    }

    static void promise09_one_thing_is_enough_none_is_too_few() {
        thingsOf("1,2,3", 1);
        faultOfThings("", 0);
        faultOfThings("   ", 3);
    }

    static void promise09_five_things_are_taken_a_sixth_is_a_fault() {
        thingsOf("1,2,3;1,2,3;1,2,3;1,2,3;1,2,3", 5);
        faultOfThings("1,2,3;1,2,3;1,2,3;1,2,3;1,2,3;1,2,3", 29);
        faultOfThings("1,2,3;1,2,3;1,2,3;1,2,3;1,2,3;", 29);
        faultOfThings("1,2,3;1,2,3;1,2,3;1,2,3;1,2,3 ;x", 30);
    }

    static void promise09_x_is_0_to_20() {
        is("0", thingsOf("0,9,1", 1).at(0, 0, 0), 0);
        is("20", thingsOf("20,9,1", 1).at(0, 0, 0), 20);
        faultOfThings("21,9,1", 0);
        faultOfThings("-1,9,1", 0);
        faultOfThings("1,2,3; 21,9,1", 7);
    }

    static void promise09_y_is_0_to_20() {
        is("0", thingsOf("9,0,1", 1).at(0, 0, 1), 0);
        is("20", thingsOf("9,20,1", 1).at(0, 0, 1), 20);
        faultOfThings("9,21,1", 2);
        faultOfThings("9,-1,1", 2);
        faultOfThings("9, 100,1", 3);
    }

    static void promise09_breadth_is_a_digit_0_to_5() {
        is("0", thingsOf("9,9,0", 1).make(0, 2, 1), 0);
        is("5", thingsOf("9,9,5", 1).make(0, 2, 1), 5);
        faultOfThings("9,9,6", 4);
        faultOfThings("9,9,9", 4);
        faultOfThings("9,9,-1", 4);
        faultOfThings("9,9,05", 5);
        faultOfThings("9,9,55", 5);
        faultOfThings("9,9, 5 5", 7);
    }

    static void promise09_a_long_number_does_not_wrap_round() {
        faultOfThings("4294967297,1,1", 0);
        faultOfThings("1,18446744073709551617,1", 2);
        faultOfThings("99999999999999999999999999999999999999999999999,1,1", 0);
        PointingArms x = thingsOf("000000000000000000000000000000000000000020,0000000003,1", 1);
        is("noughts ahead", x.at(0, 0, 0), 20);
        is("noughts ahead of y", x.at(0, 0, 1), 3);
    }

    static void promise09_the_fault_of_a_number_comes_before_what_follows() {
        faultOfThings("21", 0);
        faultOfThings("21x", 0);
        faultOfThings(" 99 ;", 1);
        faultOfThings("9,21", 2);
    }

    static void promise09_a_blank_ends_a_number() {
        faultOfThings("1 1,2,3", 2);
        faultOfThings("1,1 1,3", 4);
        faultOfThings("2 1", 2);
        faultOfThings("20 0,2,3", 3);
    }

    static void promise09_blanks_count_for_nothing_elsewhere() {
        PointingArms x = thingsOf("  1  ,  2  ,  3  ;  4  ,  5  ,  0  ", 2);
        int[] want = {1, 2, 4, 5};
        for (int i = 0; i < 4; i++) {
            is("number " + i, x.at(i / 2, 0, i % 2), want[i]);
        }
    }

    static void promise09_the_place_is_behind_blanks() {
        faultOfThings("  x", 2);
        faultOfThings("1  x", 3);
        faultOfThings("1,2,3  x", 7);
        faultOfThings("1,2,3;  ;", 8);
    }

    static void promise09_the_end_is_how_many_bytes_there_are() {
        faultOfThings("1", 1);
        faultOfThings("1 ", 2);
        faultOfThings("1,", 2);
        faultOfThings("1,2", 3);
        faultOfThings("1,2,", 4);
        faultOfThings("1,2,   ", 7);
        faultOfThings("1,2,3;", 6);
        faultOfThings("1,2,3; ", 7);
    }

    static void promise09_what_stands_between_is_a_comma_and_between_things_a_semicolon() {
        faultOfThings("1;2,3", 1);
        faultOfThings("1,2;3", 3);
        faultOfThings("1,2,3,4,5,0", 5);
        faultOfThings(",1,2,3", 0);
        faultOfThings("1,,2", 2);
        faultOfThings(";1,2,3", 0);
        faultOfThings("1,2,3;;4,5,0", 6);
        faultOfThings("+1,2,3", 0);
    }

    static void promise09_bytes_beside_the_digits_are_none() {
        faultOfThings("/,2,3", 0);
        faultOfThings(":,2,3", 0);
        faultOfThings("1/,2,3", 1);
        faultOfThings("1:,2,3", 1);
        faultOfThings("1,2,/", 4);
        faultOfThings("1,2,:", 4);
        thingsOf("9,09,3", 1);
    }

    static void promise09_a_text_of_a_hundred_bytes_is_read() {
        PointingArms x = thingsOf(times(" ", 95) + "1,2,3", 1);
        is("x", x.at(0, 0, 0), 1);
        faultOfThings(times(" ", 96) + "1,2,", 100);
        faultOfThings(times(" ", 99) + "x", 99);
    }

    static void promise09_they_are_in_place_of_all_that_were() {
        PointingArms x = thingsOf("1,2,3;4,5,0", 2);
        is("x", x.at(1, 0, 0), 4);
        is("the old third is gone", x.at(2, 0, 0), LESS_BAD);
        is("they go nowhere", x.at(0, 60, 0), 1);
        is("they go nowhere by y", x.at(1, 60, 1), 5);
        is("the next number", x.thing(1, 1, 1), 2);
        int[] others = {3, 4, 5, 8, 3, 1};
        for (int what = 1; what <= 5; what++) {
            is("count " + what + " stays", x.count(what), others[what]);
        }
    }

    // ---- 10 talk

    private static void faultOfTalk(String text, int place) {
        PointingArms x = herd();
        x.things();
        is("'" + text + "'", Due.talk(x, text), -20 - place);
        is("'" + text + "' leaves the sentences", x.count(2), 5);
        is("'" + text + "' leaves the arms", x.count(3), 8);
        is("'" + text + "' leaves no tape", x.type(' ', 1), 1);
    }

    private static PointingArms talkOf(String text, int sentences, int arms) {
        PointingArms x = new PointingArms();
        herd(x);
        x.talk();
        is("'" + text + "'", Due.talk(x, text), sentences);
        is("'" + text + "' sentences", x.count(2), sentences);
        is("'" + text + "' arms", x.count(3), arms);
        is("'" + text + "' leaves no tape", x.type(' ', 1), 1);
        return x;
    }

    static void promise10_a_fault_leaves_what_is_said() {
        leaves(x -> {
            herd(x);
            x.things();
        }, "'0+1+1;x'", x -> Due.talk(x, "0+1+1;x"), -26);
    }

    static void promise10_one_sentence_is_enough_none_is_too_few() {
        talkOf("0+1+1", 1, 1);
        faultOfTalk("", 0);
        faultOfTalk("  ", 2);
    }

    static void promise10_six_sentences_are_taken_a_seventh_is_a_fault() {
        talkOf("0+1+1;0+1+1;0+1+1;0+1+1;0+1+1;0+1+1", 6, 6);
        faultOfTalk("0+1+1;0+1+1;0+1+1;0+1+1;0+1+1;0+1+1;0+1+1", 35);
        faultOfTalk("0+1+1;0+1+1;0+1+1;0+1+1;0+1+1;0+1+1;", 35);
        faultOfTalk("0+1+1;0+1+1;0+1+1;0+1+1;0+1+1;0+1+1 ;", 36);
    }

    static void promise10_three_arms_are_taken_a_fourth_is_a_fault() {
        talkOf("0+1+1,0+1+1,0+1+1", 1, 3);
        talkOf("0+1+1,0+1+1,0+1+1;1+1+1,1+1+1,1+1+1", 2, 6);
        faultOfTalk("0+1+1,0+1+1,0+1+1,0+1+1", 17);
        faultOfTalk("0+1+1,0+1+1,0+1+1,", 17);
        faultOfTalk("0+1+1;0+1+1,0+1+1,0+1+1 ,", 24);
    }

    static void promise10_no_more_than_16_arms_fit_on_the_tape() {
        PointingArms x = full();
        is("sentences", x.count(2), 6);
        is("arms", x.count(3), 16);
    }

    static void promise10_each_must_be_there() {
        talkOf("0+1+1", 1, 1);
        talkOf("3+1+1", 1, 1);
        faultOfTalk("4+1+1", 0);
        faultOfTalk("9+1+1", 0);
        faultOfTalk("0+1+1, 4+1+1", 7);
        faultOfTalk("0+1+1; 5+1+1", 7);
        PointingArms nobody = new PointingArms();
        is("nobody at all", Due.talk(nobody, "0+1+1"), -20);
        PointingArms six = full();
        six.talk();
        is("the last of six", Due.talk(six, "5+1+1"), 1);
        is("beyond six", Due.talk(six, "6+1+1"), -20);
    }

    static void promise10_dx_and_dy_are_minus_9_to_9() {
        PointingArms x = with("19,19,0;1,1,0;19,1,0;1,19,0");
        x.person(10, 10);
        is("the farthest", Due.talk(x, "0+9+9;0-9-9;0+9-9;0-9+9"), 4);
        for (int sentence = 0; sentence < 4; sentence++) {
            is("sentence " + sentence, x.says(sentence, 0), 1 << sentence);
        }
        faultOfTalk("0+10+1", 3);
        faultOfTalk("0+1+10", 5);
        faultOfTalk("0-1-01", 5);
    }

    static void promise10_dx_and_dy_have_a_sign_each() {
        faultOfTalk("01+1", 1);
        faultOfTalk("0+11", 3);
        faultOfTalk("0*1+1", 1);
        faultOfTalk("0,1+1", 1);
        faultOfTalk("0.1+1", 1);
        faultOfTalk("0+1,1", 3);
        faultOfTalk("0++1+1", 2);
        faultOfTalk("0+-1+1", 2);
        faultOfTalk("0+1--1", 4);
    }

    static void promise10_one_of_dx_and_dy_may_be_0() {
        PointingArms x = with("20,10,0;0,10,0;10,20,0;10,0,0");
        x.person(10, 10);
        is("along", Due.talk(x, "0+1+0;0-1-0;0+0+1;0-0-1"), 4);
        for (int sentence = 0; sentence < 4; sentence++) {
            is("sentence " + sentence, x.says(sentence, 0), 1 << sentence);
        }
    }

    static void promise10_of_both_0_the_fault_is_at_the_sign_of_dy() {
        faultOfTalk("0+0+0", 3);
        faultOfTalk("0-0-0", 3);
        faultOfTalk("0 + 0  -  0", 7);
        faultOfTalk("0+0+0;x", 3);
        faultOfTalk("0+0+01", 3);
        faultOfTalk("0+1+1,1+0-0", 9);
    }

    static void promise10_without_a_digit_dy_is_not_0() {
        faultOfTalk("0+0+", 4);
        faultOfTalk("0+0+x", 4);
        faultOfTalk("0+0", 3);
        faultOfTalk("0+0x", 3);
    }

    static void promise10_the_end_is_how_many_bytes_there_are() {
        faultOfTalk("0", 1);
        faultOfTalk("0+", 2);
        faultOfTalk("0+1", 3);
        faultOfTalk("0+1+", 4);
        faultOfTalk("0+1+  ", 6);
        faultOfTalk("0+1+1;", 6);
        faultOfTalk("0+1+1,", 6);
        faultOfTalk("0+1+1, ", 7);
    }

    static void promise10_the_place_is_behind_blanks() {
        faultOfTalk("   x", 3);
        faultOfTalk(" 0 + x", 5);
        faultOfTalk("0+1+1  x", 7);
        faultOfTalk("0+1+1 1", 6);
        faultOfTalk("0+1 1+1", 4);
    }

    static void promise10_blanks_count_for_nothing() {
        talkOf("  0  +  1  -  1  ,  1 - 2 + 3 ;  2 + 0 + 9  ", 2, 3);
    }

    static void promise10_arms_have_commas_between_and_sentences_semicolons() {
        faultOfTalk(",0+1+1", 0);
        faultOfTalk(";0+1+1", 0);
        faultOfTalk("0+1+1,;0+1+1", 6);
        faultOfTalk("0+1+1;;0+1+1", 6);
        faultOfTalk("0+1+1.0+1+1", 5);
        faultOfTalk("+1+1", 0);
    }

    static void promise10_bytes_beside_the_digits_are_none() {
        faultOfTalk("/+1+1", 0);
        faultOfTalk(":+1+1", 0);
        faultOfTalk("0+/+1", 2);
        faultOfTalk("0+:+1", 2);
        faultOfTalk("0+1+/", 4);
        faultOfTalk("0+1+:", 4);
    }

    static void promise10_it_is_in_place_of_the_one_told() {
        PointingArms x = talkOf("2+0+1", 1, 1);
        is("it", x.says(0, 0), 5);
        is("the old second is gone", x.says(1, 0), BAD);
        int[] others = {5, 4, 1, 1, 3, 1};
        for (int what = 0; what <= 5; what++) {
            is("count " + what, x.count(what), others[what]);
        }
    }

    static void promise10_a_text_of_a_hundred_bytes_is_read() {
        talkOf(times(" ", 95) + "0+1+1", 1, 1);
        faultOfTalk(times(" ", 95) + "0+1+x", 99);
        faultOfTalk(times(" ", 96) + "0+1+", 100);
    }

    // ---- 11 count

    static void promise11_what_is_0_to_5() {
        int[] want = {5, 4, 5, 8, 3, 1};
        for (int what = 0; what <= 5; what++) {
            int asked = what;
            same("count " + what, x -> x.count(asked), want[what]);
        }
        refusedBeside("count", 0, 5, PointingArms::count, BAD);
    }

    static void promise11_the_most_of_each() {
        int[] want = {10, 6, 6, 16, 8, 4};
        for (int what = 0; what <= 5; what++) {
            is("count " + what, full().count(what), want[what]);
        }
    }
}
