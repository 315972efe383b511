/** Boundary cases of promises 1 to 11: a new object, and the calls that change what there is. */
public final class EdgesOfChangesTest extends Edges {
    private static final String NEW_LETTER = " | body 10 side 0 0 0 0 0 0 0 0 side 0 0 0 0 0 0 0 0 weights";

    public static void main(String[] args) throws ReflectiveOperationException {
        run(EdgesOfChangesTest.class);
    }

    // ---- promise 1: a new object

    static void promise01_there_are_two_letters() {
        EvenWhite x = new EvenWhite();
        due("told(0)", x.told(0), 2);
        due("letter(1, 0)", x.letter(1, 0), 10);
        due("letter(2, 0)", x.letter(2, 0), UNKNOWN);
    }

    static void promise01_nothing_is_told_of_the_letters_yet() {
        same("section 1", section1(new EvenWhite()), "2 D 20 W 100" + NEW_LETTER + " 0 0" + NEW_LETTER + " 0 0");
    }

    static void promise01_all_spaces_are_open_and_0_by_1() {
        EvenWhite x = new EvenWhite();
        open(x, 1, 1, 1, 1);
        for (int k = 0; k < 4; k++) {
            space(x, k / 2, k % 2, 0, 1);
        }
        whole(x, 0, 0, 0, 0);
    }

    static void promise01_no_pair_has_a_weight_or_is_worst() {
        EvenWhite x = new EvenWhite();
        due("told(3)", x.told(3), 0);
        due("told(4)", x.told(4), NONE);
        squares(x, 0, 1);
    }

    static void promise01_no_pair_has_any_white() {
        EvenWhite x = new EvenWhite();
        fraction("white", x.pair(1, 0, 2), x.pair(1, 0, 3), 0, 1);
        fraction("left over", x.pair(1, 0, 4), x.pair(1, 0, 5), -100, 1);
        due("white(1, 0)", x.white(1, 0), 0);
    }

    static void promise01_the_line_is_empty() {
        EvenWhite x = new EvenWhite();
        due("told(8)", x.told(8), 0);
        due("place(0)", x.place(0), NONE);
        due("told(11)", x.told(11), NONE);
        wide(x, 0, 1);
        same("written", written(x), ":0/1");
        due("wipe()", x.wipe(), 0);
    }

    static void promise01_nothing_can_be_undone() {
        EvenWhite x = new EvenWhite();
        due("told(13)", x.told(13), 0);
        due("undo()", x.undo(), NOT);
    }

    static void promise01_no_image_is_kept() {
        EvenWhite x = new EvenWhite();
        due("goBack(0)", x.goBack(0), NOT);
        due("goBack(1)", x.goBack(1), NOT);
    }

    static void promise01_objects_share_nothing() {
        EvenWhite other = new EvenWhite();
        String before = everything(other);
        EvenWhite x = rich();
        x.keep(1);
        same("another object", everything(other), before);
        due("goBack(1) of another", other.goBack(1), NOT);
    }

    static void promise01_the_512th_call_is_answered() {
        EvenWhite x = new EvenWhite();
        for (int call = 1; call <= 503; call++) {
            due("body, call " + call, x.body(1, call % 50 + 1), call == 1 ? 10 : (call - 1) % 50 + 1);
        }
        for (int more = 7; more >= 0; more--) {
            due("undo()", x.undo(), more);
        }
        due("the 512th call", x.letter(1, 0), 495 % 50 + 1);
    }

    // ---- promise 2: letters

    static void promise02_the_least_is_1() {
        EvenWhite x = new EvenWhite();
        due("letters(1)", x.letters(1), 2);
        due("told(0)", x.told(0), 1);
        due("letter(0, 0)", x.letter(0, 0), 10);
        due("letter(1, 0)", x.letter(1, 0), UNKNOWN);
    }

    static void promise02_the_greatest_is_3() {
        EvenWhite x = new EvenWhite();
        due("letters(3)", x.letters(3), 2);
        due("told(0)", x.told(0), 3);
        due("letter(2, 0)", x.letter(2, 0), 10);
        due("letter(3, 0)", x.letter(3, 0), UNKNOWN);
    }

    static void promise02_0_is_outside() {
        refused("letters(0)", x -> x.letters(0), OUTSIDE);
    }

    static void promise02_4_is_outside() {
        refused("letters(4)", x -> x.letters(4), OUTSIDE);
    }

    static void promise02_far_below_and_far_above_is_outside() {
        refused("letters(-1)", x -> x.letters(-1), OUTSIDE);
        refused("letters(LEAST)", x -> x.letters(LEAST), OUTSIDE);
        refused("letters(MOST)", x -> x.letters(MOST), OUTSIDE);
    }

    static void promise02_it_answers_how_many_there_were() {
        EvenWhite x = new EvenWhite();
        due("letters(3)", x.letters(3), 2);
        due("letters(1)", x.letters(1), 3);
        due("letters(1)", x.letters(1), 1);
        due("letters(2)", x.letters(2), 1);
    }

    static void promise02_as_many_letters_are_new_ones_too() {
        EvenWhite x = rich();
        due("letters(3)", x.letters(3), 3);
        same("section 1", section1(x), "3 D 25 W 222" + NEW_LETTER + " 0 0 0" + NEW_LETTER + " 0 0 0" + NEW_LETTER + " 0 0 0");
    }

    static void promise02_letters_that_come_again_are_new() {
        EvenWhite x = rich();
        x.letters(1);
        x.letters(3);
        same("section 1", section1(x), "3 D 25 W 222" + NEW_LETTER + " 0 0 0" + NEW_LETTER + " 0 0 0" + NEW_LETTER + " 0 0 0");
    }

    static void promise02_D_and_W_stay() {
        EvenWhite x = new EvenWhite();
        x.bound(0, 60);
        x.bound(1, 0);
        x.letters(1);
        due("D", x.told(1), 60);
        due("W", x.told(2), 0);
    }

    static void promise02_the_line_is_empty_with_other_many_letters() {
        EvenWhite x = line(new EvenWhite(), 0, 0);
        x.letters(3);
        due("told(8)", x.told(8), 0);
        due("place(0)", x.place(0), NONE);
    }

    static void promise02_the_line_is_empty_with_as_many_letters() {
        EvenWhite x = line(new EvenWhite(), 0, 0);
        x.letters(2);
        due("told(8)", x.told(8), 0);
        due("place(0)", x.place(0), NONE);
    }

    static void promise02_no_weight_is_left_of_letters_that_went() {
        EvenWhite x = of(3);
        x.weight(2, 2, 4);
        x.letters(2);
        due("told(3)", x.told(3), 0);
        due("told(4)", x.told(4), NONE);
    }

    // ---- promise 3: side

    static void promise03_the_least_is_0() {
        EvenWhite x = new EvenWhite();
        x.side(0, LEFT, 0, 5);
        due("side(0, 0, 0, 0)", x.side(0, LEFT, 0, 0), 5);
        due("back(0, 0, 0)", x.back(0, LEFT, 0), 0);
    }

    static void promise03_the_greatest_is_30() {
        EvenWhite x = new EvenWhite();
        due("side(0, 0, 0, 30)", x.side(0, LEFT, 0, 30), 0);
        due("back(0, 0, 0)", x.back(0, LEFT, 0), 30);
    }

    static void promise03_below_0_is_outside() {
        refused("side(0, 0, 0, -1)", x -> x.side(0, 0, 0, -1), OUTSIDE);
        refused("side(0, 0, 0, LEAST)", x -> x.side(0, 0, 0, LEAST), OUTSIDE);
    }

    static void promise03_above_30_is_outside() {
        refused("side(0, 0, 0, 31)", x -> x.side(0, 0, 0, 31), OUTSIDE);
        refused("side(0, 0, 0, MOST)", x -> x.side(0, 0, 0, MOST), OUTSIDE);
    }

    static void promise03_the_first_height_is_0() {
        EvenWhite x = new EvenWhite();
        due("side(1, 1, 0, 9)", x.side(1, RIGHT, 0, 9), 0);
        same("section 1", section1(x), "2 D 20 W 100" + NEW_LETTER + " 0 0"
            + " | body 10 side 0 0 0 0 0 0 0 0 side 9 0 0 0 0 0 0 0 weights 0 0");
    }

    static void promise03_the_last_height_is_7() {
        EvenWhite x = new EvenWhite();
        due("side(0, 0, 7, 9)", x.side(0, LEFT, 7, 9), 0);
        same("section 1", section1(x), "2 D 20 W 100"
            + " | body 10 side 0 0 0 0 0 0 0 9 side 0 0 0 0 0 0 0 0 weights 0 0" + NEW_LETTER + " 0 0");
    }

    static void promise03_a_height_below_0_is_unknown() {
        refused("side(1, 0, -1, 9)", x -> x.side(1, 0, -1, 9), UNKNOWN);
        refused("side(1, 0, LEAST, 9)", x -> x.side(1, 0, LEAST, 9), UNKNOWN);
    }

    static void promise03_a_height_above_7_is_unknown() {
        refused("side(0, 0, 8, 9)", x -> x.side(0, 0, 8, 9), UNKNOWN);
        refused("side(0, 0, MOST, 9)", x -> x.side(0, 0, MOST, 9), UNKNOWN);
    }

    static void promise03_a_side_below_0_is_outside() {
        refused("side(1, -1, 0, 9)", x -> x.side(1, -1, 0, 9), OUTSIDE);
        refused("side(1, LEAST, 0, 9)", x -> x.side(1, LEAST, 0, 9), OUTSIDE);
    }

    static void promise03_a_side_above_1_is_outside() {
        refused("side(0, 2, 0, 9)", x -> x.side(0, 2, 0, 9), OUTSIDE);
        refused("side(0, MOST, 0, 9)", x -> x.side(0, MOST, 0, 9), OUTSIDE);
    }

    static void promise03_the_last_letter_is_one_less_than_there_are() {
        for (int n = 1; n <= 3; n++) {
            EvenWhite x = of(n);
            due("side of the last of " + n, x.side(n - 1, RIGHT, 7, 3), 0);
            due("side of one behind the last of " + n, x.side(n, RIGHT, 7, 3), UNKNOWN);
        }
    }

    static void promise03_a_letter_that_there_is_not_is_unknown() {
        refused("side(-1, 0, 0, 9)", x -> x.side(-1, 0, 0, 9), UNKNOWN);
        refused("side(3, 0, 0, 9)", x -> x.side(3, 0, 0, 9), UNKNOWN);
        refused("side(LEAST, 0, 0, 9)", x -> x.side(LEAST, 0, 0, 9), UNKNOWN);
        refused("side(MOST, 0, 0, 9)", x -> x.side(MOST, 0, 0, 9), UNKNOWN);
    }

    static void promise03_an_unknown_letter_is_told_ahead_of_what_is_outside() {
        refused("side(3, 2, 0, 9)", x -> x.side(3, 2, 0, 9), UNKNOWN);
        refused("side(3, 0, 0, 31)", x -> x.side(3, 0, 0, 31), UNKNOWN);
        refused("side(-1, -1, 0, -1)", x -> x.side(-1, -1, 0, -1), UNKNOWN);
    }

    static void promise03_an_unknown_height_is_told_ahead_of_what_is_outside() {
        refused("side(0, 2, 8, 9)", x -> x.side(0, 2, 8, 9), UNKNOWN);
        refused("side(0, 0, 8, 31)", x -> x.side(0, 0, 8, 31), UNKNOWN);
        refused("side(0, -1, -1, -1)", x -> x.side(0, -1, -1, -1), UNKNOWN);
    }

    static void promise03_as_much_as_it_was_is_a_change_too() {
        EvenWhite x = new EvenWhite();
        due("side(0, 0, 0, 0)", x.side(0, LEFT, 0, 0), 0);
        due("told(13)", x.told(13), 1);
    }

    // ---- promise 4: body

    static void promise04_the_least_is_1() {
        EvenWhite x = new EvenWhite();
        due("body(0, 1)", x.body(0, 1), 10);
        due("letter(0, 0)", x.letter(0, 0), 1);
        due("letter(1, 0)", x.letter(1, 0), 10);
    }

    static void promise04_the_greatest_is_50() {
        EvenWhite x = new EvenWhite();
        due("body(1, 50)", x.body(1, 50), 10);
        due("letter(1, 0)", x.letter(1, 0), 50);
        due("letter(0, 0)", x.letter(0, 0), 10);
    }

    static void promise04_below_1_is_outside() {
        refused("body(0, 0)", x -> x.body(0, 0), OUTSIDE);
        refused("body(0, -1)", x -> x.body(0, -1), OUTSIDE);
        refused("body(0, LEAST)", x -> x.body(0, LEAST), OUTSIDE);
    }

    static void promise04_above_50_is_outside() {
        refused("body(0, 51)", x -> x.body(0, 51), OUTSIDE);
        refused("body(0, MOST)", x -> x.body(0, MOST), OUTSIDE);
    }

    static void promise04_the_last_letter_is_one_less_than_there_are() {
        for (int n = 1; n <= 3; n++) {
            EvenWhite x = of(n);
            due("body of the last of " + n, x.body(n - 1, 3), 10);
            due("body of one behind the last of " + n, x.body(n, 3), UNKNOWN);
        }
    }

    static void promise04_a_letter_that_there_is_not_is_unknown() {
        refused("body(-1, 9)", x -> x.body(-1, 9), UNKNOWN);
        refused("body(3, 9)", x -> x.body(3, 9), UNKNOWN);
        refused("body(LEAST, 9)", x -> x.body(LEAST, 9), UNKNOWN);
        refused("body(MOST, 9)", x -> x.body(MOST, 9), UNKNOWN);
    }

    static void promise04_unknown_is_told_ahead_of_outside() {
        refused("body(3, 0)", x -> x.body(3, 0), UNKNOWN);
        refused("body(-1, 51)", x -> x.body(-1, 51), UNKNOWN);
    }

    static void promise04_as_much_as_it_was_is_a_change_too() {
        EvenWhite x = new EvenWhite();
        due("body(0, 10)", x.body(0, 10), 10);
        due("told(13)", x.told(13), 1);
    }

    // ---- promise 5: bound

    static void promise05_the_least_D_is_1() {
        EvenWhite x = new EvenWhite();
        due("bound(0, 1)", x.bound(0, 1), 20);
        due("D", x.told(1), 1);
        due("W", x.told(2), 100);
    }

    static void promise05_the_greatest_D_is_60() {
        EvenWhite x = new EvenWhite();
        due("bound(0, 60)", x.bound(0, 60), 20);
        due("D", x.told(1), 60);
    }

    static void promise05_D_below_1_is_outside() {
        refused("bound(0, 0)", x -> x.bound(0, 0), OUTSIDE);
        refused("bound(0, -1)", x -> x.bound(0, -1), OUTSIDE);
        refused("bound(0, LEAST)", x -> x.bound(0, LEAST), OUTSIDE);
    }

    static void promise05_D_above_60_is_outside() {
        refused("bound(0, 61)", x -> x.bound(0, 61), OUTSIDE);
        refused("bound(0, 500)", x -> x.bound(0, 500), OUTSIDE);
        refused("bound(0, MOST)", x -> x.bound(0, MOST), OUTSIDE);
    }

    static void promise05_the_least_W_is_0() {
        EvenWhite x = new EvenWhite();
        due("bound(1, 0)", x.bound(1, 0), 100);
        due("W", x.told(2), 0);
        due("D", x.told(1), 20);
    }

    static void promise05_the_greatest_W_is_500() {
        EvenWhite x = new EvenWhite();
        due("bound(1, 500)", x.bound(1, 500), 100);
        due("W", x.told(2), 500);
    }

    static void promise05_W_below_0_is_outside() {
        refused("bound(1, -1)", x -> x.bound(1, -1), OUTSIDE);
        refused("bound(1, LEAST)", x -> x.bound(1, LEAST), OUTSIDE);
    }

    static void promise05_W_above_500_is_outside() {
        refused("bound(1, 501)", x -> x.bound(1, 501), OUTSIDE);
        refused("bound(1, MOST)", x -> x.bound(1, MOST), OUTSIDE);
    }

    static void promise05_what_below_0_is_outside() {
        refused("bound(-1, 5)", x -> x.bound(-1, 5), OUTSIDE);
        refused("bound(LEAST, 5)", x -> x.bound(LEAST, 5), OUTSIDE);
    }

    static void promise05_what_above_1_is_outside() {
        refused("bound(2, 5)", x -> x.bound(2, 5), OUTSIDE);
        refused("bound(MOST, 5)", x -> x.bound(MOST, 5), OUTSIDE);
    }

    static void promise05_as_much_as_it_was_is_a_change_too() {
        EvenWhite x = new EvenWhite();
        due("bound(0, 20)", x.bound(0, 20), 20);
        due("bound(1, 100)", x.bound(1, 100), 100);
        due("told(13)", x.told(13), 2);
    }

    // ---- promise 6: weight

    static void promise06_the_least_is_0() {
        EvenWhite x = new EvenWhite();
        x.weight(0, 1, 3);
        due("weight(0, 1, 0)", x.weight(0, 1, 0), 3);
        due("pair(0, 1, 0)", x.pair(0, 1, 0), 0);
        due("told(3)", x.told(3), 0);
    }

    static void promise06_the_greatest_is_4() {
        EvenWhite x = new EvenWhite();
        due("weight(0, 1, 4)", x.weight(0, 1, 4), 0);
        due("pair(0, 1, 0)", x.pair(0, 1, 0), 4);
    }

    static void promise06_below_0_is_outside() {
        refused("weight(0, 1, -1)", x -> x.weight(0, 1, -1), OUTSIDE);
        refused("weight(0, 1, LEAST)", x -> x.weight(0, 1, LEAST), OUTSIDE);
    }

    static void promise06_above_4_is_outside() {
        refused("weight(0, 1, 5)", x -> x.weight(0, 1, 5), OUTSIDE);
        refused("weight(0, 1, MOST)", x -> x.weight(0, 1, MOST), OUTSIDE);
    }

    static void promise06_a_letter_may_stand_behind_itself() {
        EvenWhite x = new EvenWhite();
        due("weight(1, 1, 2)", x.weight(1, 1, 2), 0);
        same("section 1", section1(x), "2 D 20 W 100" + NEW_LETTER + " 0 0" + NEW_LETTER + " 0 2");
    }

    static void promise06_the_pair_turned_round_is_another_one() {
        EvenWhite x = new EvenWhite();
        due("weight(1, 0, 2)", x.weight(1, 0, 2), 0);
        same("section 1", section1(x), "2 D 20 W 100" + NEW_LETTER + " 0 0" + NEW_LETTER + " 2 0");
    }

    static void promise06_the_last_letter_is_one_less_than_there_are() {
        for (int n = 1; n <= 3; n++) {
            EvenWhite x = of(n);
            due("weight of the last of " + n, x.weight(n - 1, n - 1, 3), 0);
            due("weight of one behind the last of " + n, x.weight(n, 0, 3), UNKNOWN);
            due("weight of one ahead, one behind the last of " + n, x.weight(0, n, 3), UNKNOWN);
        }
    }

    static void promise06_a_first_letter_that_there_is_not_is_unknown() {
        refused("weight(-1, 0, 1)", x -> x.weight(-1, 0, 1), UNKNOWN);
        refused("weight(3, 0, 1)", x -> x.weight(3, 0, 1), UNKNOWN);
        refused("weight(LEAST, 0, 1)", x -> x.weight(LEAST, 0, 1), UNKNOWN);
        refused("weight(MOST, 0, 1)", x -> x.weight(MOST, 0, 1), UNKNOWN);
    }

    static void promise06_a_letter_behind_that_there_is_not_is_unknown() {
        refused("weight(1, -1, 1)", x -> x.weight(1, -1, 1), UNKNOWN);
        refused("weight(1, 3, 1)", x -> x.weight(1, 3, 1), UNKNOWN);
        refused("weight(1, LEAST, 1)", x -> x.weight(1, LEAST, 1), UNKNOWN);
        refused("weight(1, MOST, 1)", x -> x.weight(1, MOST, 1), UNKNOWN);
    }

    static void promise06_unknown_is_told_ahead_of_outside() {
        refused("weight(3, 0, 5)", x -> x.weight(3, 0, 5), UNKNOWN);
        refused("weight(0, 3, -1)", x -> x.weight(0, 3, -1), UNKNOWN);
    }

    static void promise06_as_much_as_it_was_is_a_change_too() {
        EvenWhite x = new EvenWhite();
        due("weight(0, 0, 0)", x.weight(0, 0, 0), 0);
        due("told(13)", x.told(13), 1);
    }

    // ---- promise 7: mirror

    static void promise07_sides_without_anything_are_alike() {
        EvenWhite x = new EvenWhite();
        due("mirror(0)", x.mirror(0), 0);
        due("told(13)", x.told(13), 1);
    }

    static void promise07_like_sides_are_alike() {
        EvenWhite x = back(back(new EvenWhite(), 1, LEFT, 1, 2, 3, 4), 1, RIGHT, 1, 2, 3, 4);
        due("mirror(1)", x.mirror(1), 0);
    }

    static void promise07_unlike_at_the_first_height_alone() {
        EvenWhite x = back(new EvenWhite(), 0, LEFT, 1);
        due("mirror(0)", x.mirror(0), 1);
        due("back(0, 0, 0)", x.back(0, LEFT, 0), 0);
        due("back(0, 1, 0)", x.back(0, RIGHT, 0), 1);
    }

    static void promise07_unlike_at_the_last_height_alone() {
        EvenWhite x = back(new EvenWhite(), 0, RIGHT, 0, 0, 0, 0, 0, 0, 0, 30);
        due("mirror(0)", x.mirror(0), 1);
        due("back(0, 0, 7)", x.back(0, LEFT, 7), 30);
        due("back(0, 1, 7)", x.back(0, RIGHT, 7), 0);
    }

    static void promise07_as_much_in_all_at_other_heights_is_unlike() {
        EvenWhite x = back(back(new EvenWhite(), 0, LEFT, 5, 0), 0, RIGHT, 0, 5);
        due("mirror(0)", x.mirror(0), 1);
    }

    static void promise07_mirrored_twice_is_as_before() {
        EvenWhite x = rich();
        String before = section1(x);
        due("mirror(2)", x.mirror(2), 1);
        due("mirror(2)", x.mirror(2), 1);
        same("section 1", section1(x), before);
    }

    static void promise07_the_body_weights_and_other_letters_stay() {
        EvenWhite x = back(new EvenWhite(), 0, LEFT, 1);
        x.body(0, 3);
        x.weight(0, 1, 2);
        x.side(1, LEFT, 7, 4);
        x.mirror(0);
        same("section 1", section1(x), "2 D 20 W 100 | body 3 side 0 0 0 0 0 0 0 0 side 1 0 0 0 0 0 0 0 weights 0 2"
            + " | body 10 side 0 0 0 0 0 0 0 4 side 0 0 0 0 0 0 0 0 weights 0 0");
    }

    static void promise07_the_last_letter_is_one_less_than_there_are() {
        for (int n = 1; n <= 3; n++) {
            EvenWhite x = back(of(n), n - 1, LEFT, 1);
            due("mirror the last of " + n, x.mirror(n - 1), 1);
            due("mirror one behind the last of " + n, x.mirror(n), UNKNOWN);
        }
    }

    static void promise07_a_letter_that_there_is_not_is_unknown() {
        refused("mirror(-1)", x -> x.mirror(-1), UNKNOWN);
        refused("mirror(3)", x -> x.mirror(3), UNKNOWN);
        refused("mirror(LEAST)", x -> x.mirror(LEAST), UNKNOWN);
        refused("mirror(MOST)", x -> x.mirror(MOST), UNKNOWN);
    }

    // ---- promise 8: turn

    static void promise08_one_letter_is_the_least() {
        EvenWhite x = back(of(1), 0, LEFT, 1, 2);
        x.weight(0, 0, 4);
        due("turn()", x.turn(), 1);
        same("section 1", section1(x), "1 D 20 W 100 | body 10 side 0 0 0 0 0 0 0 0 side 1 2 0 0 0 0 0 0 weights 4");
    }

    static void promise08_three_letters_are_the_most() {
        EvenWhite x = of(3);
        for (int k = 0; k < 9; k++) {
            x.weight(k / 3, k % 3, (k + 1) % 5);
        }
        x.side(2, LEFT, 7, 6);
        due("turn()", x.turn(), 3);
        same("section 1", section1(x), "3 D 20 W 100" + NEW_LETTER + " 1 4 2" + NEW_LETTER + " 2 0 3"
            + " | body 10 side 0 0 0 0 0 0 0 0 side 0 0 0 0 0 0 0 6 weights 3 1 4");
    }

    static void promise08_a_new_object_can_be_turned() {
        EvenWhite x = new EvenWhite();
        due("turn()", x.turn(), 2);
        due("told(13)", x.told(13), 1);
    }

    static void promise08_turned_twice_is_as_before() {
        EvenWhite x = rich();
        String before = section1(x);
        x.turn();
        x.turn();
        same("section 1", section1(x), before);
    }

    static void promise08_bodies_D_W_and_the_line_stay() {
        EvenWhite x = line(new EvenWhite(), 1, 0, 1);
        x.body(0, 1);
        x.body(1, 50);
        x.bound(0, 60);
        x.bound(1, 500);
        x.turn();
        same("section 1", section1(x), "2 D 60 W 500 | body 1 side 0 0 0 0 0 0 0 0 side 0 0 0 0 0 0 0 0 weights 0 0"
            + " | body 50 side 0 0 0 0 0 0 0 0 side 0 0 0 0 0 0 0 0 weights 0 0");
        due("told(8)", x.told(8), 3);
        due("place(1)", x.place(1), 0);
    }

    // ---- promise 9: copy

    static void promise09_like_letters_are_another_number_nowhere() {
        EvenWhite x = new EvenWhite();
        due("copy(0, 1)", x.copy(0, 1), 0);
        due("told(13)", x.told(13), 1);
    }

    static void promise09_all_numbers_are_others_at_17_places() {
        EvenWhite x = backAll(new EvenWhite(), 1, 30);
        x.body(1, 50);
        due("copy(0, 1)", x.copy(0, 1), 17);
        due("letter(0, 0)", x.letter(0, 0), 50);
        due("letter(0, 2)", x.letter(0, 2), 240);
        due("letter(0, 3)", x.letter(0, 3), 240);
    }

    static void promise09_the_body_alone() {
        EvenWhite x = new EvenWhite();
        x.body(0, 11);
        due("copy(1, 0)", x.copy(1, 0), 1);
        due("letter(1, 0)", x.letter(1, 0), 11);
    }

    static void promise09_the_first_and_the_last_place_of_the_sides() {
        EvenWhite x = new EvenWhite();
        x.side(0, LEFT, 0, 1);
        x.side(0, RIGHT, 7, 1);
        due("copy(1, 0)", x.copy(1, 0), 2);
        due("back(1, 0, 0)", x.back(1, LEFT, 0), 1);
        due("back(1, 1, 7)", x.back(1, RIGHT, 7), 1);
    }

    static void promise09_weights_and_the_other_letter_stay() {
        EvenWhite x = back(new EvenWhite(), 0, LEFT, 1);
        x.weight(0, 1, 3);
        x.weight(1, 1, 4);
        x.copy(1, 0);
        same("section 1", section1(x), "2 D 20 W 100 | body 10 side 1 0 0 0 0 0 0 0 side 0 0 0 0 0 0 0 0 weights 0 3"
            + " | body 10 side 1 0 0 0 0 0 0 0 side 0 0 0 0 0 0 0 0 weights 0 4");
    }

    static void promise09_what_is_changed_later_is_not_copied() {
        EvenWhite x = new EvenWhite();
        x.copy(1, 0);
        x.side(0, LEFT, 2, 9);
        x.body(0, 12);
        due("back(1, 0, 2)", x.back(1, LEFT, 2), 0);
        due("letter(1, 0)", x.letter(1, 0), 10);
    }

    static void promise09_one_letter_twice_is_unknown() {
        refused("copy(0, 0)", x -> x.copy(0, 0), UNKNOWN);
        refused("copy(2, 2)", x -> x.copy(2, 2), UNKNOWN);
        refused("copy(3, 3)", x -> x.copy(3, 3), UNKNOWN);
        due("copy(0, 0) of one letter", of(1).copy(0, 0), UNKNOWN);
    }

    static void promise09_a_letter_that_there_is_not_is_unknown() {
        refused("copy(-1, 0)", x -> x.copy(-1, 0), UNKNOWN);
        refused("copy(3, 0)", x -> x.copy(3, 0), UNKNOWN);
        refused("copy(LEAST, 0)", x -> x.copy(LEAST, 0), UNKNOWN);
        refused("copy(MOST, 0)", x -> x.copy(MOST, 0), UNKNOWN);
    }

    static void promise09_another_one_that_there_is_not_is_unknown() {
        refused("copy(0, -1)", x -> x.copy(0, -1), UNKNOWN);
        refused("copy(0, 3)", x -> x.copy(0, 3), UNKNOWN);
        refused("copy(0, LEAST)", x -> x.copy(0, LEAST), UNKNOWN);
        refused("copy(0, MOST)", x -> x.copy(0, MOST), UNKNOWN);
    }

    // ---- promise 10: drift

    /** The first X of seed 1 is 16807, by 31 rest 5; for one letter the weight is the 17th number. */
    static void promise10_the_least_seed_is_1() {
        EvenWhite x = of(1);
        due("drift(1)", x.drift(1), 142);
        same("section 1", section1(x), "1 D 20 W 100 | body 10 side 5 25 23 2 21 17 1 21 side 11 16 26 9 27 26 14 9 weights 2");
    }

    /** 999999 times 16807 is 16806983193, by 2147483647 rest 1774597664, by 31 rest 29: no int holds that. */
    static void promise10_the_greatest_seed_is_999999() {
        EvenWhite x = of(1);
        due("drift(999999)", x.drift(999999), 160);
        due("back(0, 0, 0)", x.back(0, LEFT, 0), 29);
    }

    static void promise10_a_seed_below_1_is_outside() {
        refused("drift(0)", x -> x.drift(0), OUTSIDE);
        refused("drift(-1)", x -> x.drift(-1), OUTSIDE);
        refused("drift(LEAST)", x -> x.drift(LEAST), OUTSIDE);
    }

    static void promise10_a_seed_above_999999_is_outside() {
        refused("drift(1000000)", x -> x.drift(1000000), OUTSIDE);
        refused("drift(MOST)", x -> x.drift(MOST), OUTSIDE);
    }

    /** Told by the document's words once more: all sides ahead of all weights. */
    static void promise10_all_numbers_of_one_two_and_three_letters() {
        for (int n = 1; n <= 3; n++) {
            for (int seed : new int[] {1, 2, 500000, 999999}) {
                EvenWhite x = of(n);
                x.drift(seed);
                long lot = seed;
                for (int k = 0; k < 16 * n; k++) {
                    lot = lot * 16807L % 2147483647L;
                    due("side, number " + k + " of seed " + seed, x.back(k / 16, k / 8 % 2, k % 8), lot % 31);
                }
                for (int k = 0; k < n * n; k++) {
                    lot = lot * 16807L % 2147483647L;
                    due("weight, number " + k + " of seed " + seed, x.pair(k / n, k % n, 0), lot % 5);
                }
            }
        }
    }

    static void promise10_the_same_seed_gives_the_same_whatever_was() {
        EvenWhite x = rich();
        x.letters(2);
        EvenWhite y = new EvenWhite();
        y.bound(0, 25);
        y.bound(1, 222);
        due("drift(31)", x.drift(31), y.drift(31));
        same("section 1", section1(x), section1(y));
    }

    static void promise10_bare_of_all_pairs_by_the_least_and_the_greatest_D() {
        for (int depth : new int[] {1, 60}) {
            EvenWhite x = of(3);
            x.bound(0, depth);
            int together = x.drift(12345);
            long sum = 0;
            for (int k = 0; k < 9; k++) {
                for (int height = 0; height < 8; height++) {
                    sum += Math.min(depth, x.back(k / 3, RIGHT, height) + x.back(k % 3, LEFT, height));
                }
            }
            due("drift by D " + depth, together, sum);
        }
    }

    static void promise10_bodies_D_W_and_the_line_stay() {
        EvenWhite x = line(new EvenWhite(), 1, 1);
        x.body(0, 50);
        x.bound(0, 1);
        x.bound(1, 500);
        x.drift(3);
        due("letter(0, 0)", x.letter(0, 0), 50);
        due("letter(1, 0)", x.letter(1, 0), 10);
        due("D", x.told(1), 1);
        due("W", x.told(2), 500);
        due("told(8)", x.told(8), 2);
    }

    // ---- promise 11: undo

    static void promise11_none_can_be_undone_at_first() {
        refused("undo()", EvenWhite::new, x -> x.undo(), NOT);
    }

    static void promise11_none_can_be_undone_behind_the_last() {
        refused("undo()", () -> undone(rich(), 8), x -> x.undo(), NOT);
        EvenWhite x = undone(rich(), 8);
        due("undo()", x.undo(), NOT);
        due("undo() again", x.undo(), NOT);
        due("told(13)", x.told(13), 0);
    }

    static void promise11_one_change_can_be_undone() {
        EvenWhite x = new EvenWhite();
        x.body(0, 11);
        due("told(13)", x.told(13), 1);
        due("undo()", x.undo(), 0);
        due("letter(0, 0)", x.letter(0, 0), 10);
        due("undo() again", x.undo(), NOT);
    }

    /** As many bodies as changes, one after the other: 7, 8, 9 and those about the ring's second and third round. */
    static void promise11_eight_are_kept_and_the_oldest_are_lost() {
        for (int changes : new int[] {7, 8, 9, 10, 15, 16, 17, 23, 24, 25, 40}) {
            EvenWhite x = new EvenWhite();
            for (int v = 1; v <= changes; v++) {
                x.body(0, v);
            }
            int kept = Math.min(changes, 8);
            due("told(13) of " + changes, x.told(13), kept);
            for (int back = 1; back <= kept; back++) {
                due("undo() of " + changes, x.undo(), kept - back);
                due("body of " + changes + ", undone " + back, x.letter(0, 0), changes == back ? 10 : changes - back);
            }
            due("undo() behind the last of " + changes, x.undo(), NOT);
            due("body, all undone of " + changes, x.letter(0, 0), changes <= 8 ? 10 : changes - 8);
        }
    }

    static void promise11_changes_behind_what_was_undone() {
        EvenWhite x = new EvenWhite();
        for (int v = 1; v <= 9; v++) {
            x.body(0, v);
        }
        undone(x, 3);
        x.body(0, 20);
        x.body(0, 21);
        due("told(13)", x.told(13), 7);
        int[] want = {20, 6, 5, 4, 3, 2, 1};
        for (int k = 0; k < want.length; k++) {
            due("undo()", x.undo(), 6 - k);
            due("letter(0, 0)", x.letter(0, 0), want[k]);
        }
        due("undo()", x.undo(), NOT);
    }

    static void promise11_what_is_undone_is_no_change_that_can_be_undone() {
        EvenWhite x = new EvenWhite();
        x.body(0, 11);
        x.body(0, 12);
        x.undo();
        x.undo();
        due("undo()", x.undo(), NOT);
        due("letter(0, 0)", x.letter(0, 0), 10);
    }

    static void promise11_letters() {
        undoes(x -> x.letters(2));
        undoes(x -> x.letters(3));
    }

    static void promise11_side() {
        undoes(x -> x.side(2, RIGHT, 7, 30 - x.back(2, RIGHT, 7)));
    }

    static void promise11_body() {
        undoes(x -> x.body(2, 49));
    }

    static void promise11_bound_D() {
        undoes(x -> x.bound(0, 60));
    }

    static void promise11_bound_W() {
        undoes(x -> x.bound(1, 0));
    }

    static void promise11_weight() {
        undoes(x -> x.weight(2, 2, x.pair(2, 2, 0) == 4 ? 0 : 4));
    }

    static void promise11_mirror() {
        undoes(x -> x.mirror(1));
    }

    static void promise11_turn() {
        undoes(x -> x.turn());
    }

    static void promise11_copy() {
        undoes(x -> x.copy(2, 1));
    }

    static void promise11_drift() {
        undoes(x -> x.drift(999999));
    }

    private static void undoes(java.util.function.ToLongFunction<EvenWhite> change) {
        String before = section1(rich());
        EvenWhite x = rich();
        x.keep(1);
        change.applyAsLong(x);
        due("section 1 is another one", section1(x).equals(before) ? 1 : 0, 0);
        due("told(13)", x.told(13), 1);
        due("undo()", x.undo(), 0);
        same("section 1", section1(x), before);
        // Spaces are told anew, not as they were found behind the change.
        EvenWhite y = rich();
        y.keep(1);
        change.applyAsLong(y);
        y.told(5);
        y.undo();
        line(y, 0, 1, 2);
        same("all", everything(y), everything(kept(line(rich(), 0, 1, 2))));
    }

    private static EvenWhite kept(EvenWhite x) {
        x.keep(1);
        return x;
    }

    static void promise11_calls_that_change_no_letters_are_not_undone() {
        EvenWhite x = new EvenWhite();
        x.body(0, 11);
        x.set(0);
        x.set(1);
        x.wipe();
        x.set(1);
        due("told(13)", x.told(13), 1);
        due("undo()", x.undo(), 0);
        due("letter(0, 0)", x.letter(0, 0), 10);
        due("place(0)", x.place(0), 1);
    }

    static void promise11_refused_calls_are_not_undone() {
        EvenWhite x = new EvenWhite();
        x.body(0, 11);
        x.letters(0);
        x.side(0, 0, 0, 31);
        x.body(0, 51);
        x.bound(0, 61);
        x.bound(1, 501);
        x.weight(0, 0, 5);
        x.mirror(2);
        x.copy(0, 0);
        x.drift(0);
        due("told(13)", x.told(13), 1);
        due("undo()", x.undo(), 0);
        due("letter(0, 0)", x.letter(0, 0), 10);
    }

    static void promise11_the_line_is_empty_if_there_are_fewer_letters_by_it() {
        EvenWhite x = new EvenWhite();
        x.letters(3);
        line(x, 0, 1);
        x.undo();
        due("told(0)", x.told(0), 2);
        due("told(8)", x.told(8), 0);
        due("place(0)", x.place(0), NONE);
    }

    static void promise11_the_line_is_empty_if_there_are_more_letters_by_it() {
        EvenWhite x = new EvenWhite();
        x.letters(1);
        line(x, 0, 0);
        x.undo();
        due("told(0)", x.told(0), 2);
        due("told(8)", x.told(8), 0);
    }

    static void promise11_the_line_stays_if_there_are_as_many_letters() {
        EvenWhite x = line(new EvenWhite(), 1, 0, 1);
        x.drift(5);
        x.undo();
        due("told(8)", x.told(8), 3);
        due("place(2)", x.place(2), 1);
    }

    static void promise11_the_line_stays_if_letters_were_as_many() {
        EvenWhite x = new EvenWhite();
        x.letters(2);
        line(x, 1, 0, 1);
        x.undo();
        due("told(8)", x.told(8), 3);
    }

    static void promise11_nothing_can_be_undone_behind_an_image() {
        EvenWhite x = new EvenWhite();
        x.body(0, 11);
        x.keep(0);
        due("undo() behind keep", x.undo(), NOT);
        x.body(0, 12);
        x.goBack(0);
        due("undo() behind goBack", x.undo(), NOT);
        due("letter(0, 0)", x.letter(0, 0), 11);
    }
}
