/** Boundary cases of promises 12 to 17: what is told of letters, spaces, pairs and white. */
public final class EdgesOfAnswersTest extends Edges {
    public static void main(String[] args) throws ReflectiveOperationException {
        run(EdgesOfAnswersTest.class);
    }

    /**
     * All spaces of letter 0 are halves: W is 8, and letter 1 goes back at its left by 4, so that right of 0
     * and left of 1 (open) lack 4, right of 0 and left of 0 lack 8.
     */
    private static EvenWhite halves() {
        EvenWhite x = new EvenWhite();
        x.bound(1, 8);
        x.side(1, LEFT, 0, 4);
        x.weight(0, 0, 1);
        x.weight(0, 1, 1);
        return x;
    }

    // ---- promise 12: told

    static void promise12_what_below_0_is_outside() {
        refused("told(-1)", x -> x.told(-1), OUTSIDE);
        refused("told(LEAST)", x -> x.told(LEAST), OUTSIDE);
    }

    static void promise12_what_above_13_is_outside() {
        refused("told(14)", x -> x.told(14), OUTSIDE);
        refused("told(MOST)", x -> x.told(MOST), OUTSIDE);
    }

    static void promise12_the_first_and_the_last_that_is_told() {
        EvenWhite x = rich();
        due("told(0)", x.told(0), 3);
        due("told(13)", x.told(13), 8);
    }

    static void promise12_nothing_is_changed_by_what_is_told() {
        for (int what = 0; what < 14; what++) {
            int asked = what;
            refused("told(" + what + ")", x -> x.told(asked), rich().told(what));
        }
    }

    static void promise12_no_pair_has_a_weight() {
        due("told(3)", new EvenWhite().told(3), 0);
    }

    static void promise12_all_pairs_have_a_weight() {
        EvenWhite x = of(3);
        for (int k = 0; k < 9; k++) {
            x.weight(k / 3, k % 3, k % 4 + 1);
            due("told(3)", x.told(3), k + 1);
        }
    }

    static void promise12_a_pair_counts_once_whatever_its_weight() {
        EvenWhite x = new EvenWhite();
        x.weight(1, 0, 4);
        due("told(3)", x.told(3), 1);
    }

    static void promise12_no_pair_is_worst_if_none_has_a_weight() {
        EvenWhite x = deep();
        x.weight(0, 0, 0);
        due("told(4)", x.told(4), NONE);
        squares(x, 0, 1);
    }

    static void promise12_the_first_pair_is_worst() {
        EvenWhite x = of(1);
        x.weight(0, 0, 1);
        due("told(4)", x.told(4), 0);
    }

    static void promise12_the_last_pair_is_worst() {
        EvenWhite x = of(3);
        x.weight(2, 2, 1);
        due("told(4)", x.told(4), 22);
    }

    static void promise12_worst_tells_the_one_ahead_of_the_one_behind() {
        EvenWhite x = of(3);
        x.weight(1, 2, 1);
        due("told(4)", x.told(4), 12);
    }

    /** All four are as far from 0, the first and the last below it. */
    static void promise12_of_like_ones_the_first_is_worst_below_0() {
        EvenWhite x = uneven(1);
        fraction("left over", x.pair(0, 0, 4), x.pair(0, 0, 5), -1, 4);
        fraction("left over", x.pair(0, 1, 4), x.pair(0, 1, 5), 1, 4);
        due("told(4)", x.told(4), 0);
    }

    /** All four are as far from 0, the first and the last above it. */
    static void promise12_of_like_ones_the_first_is_worst_above_0() {
        EvenWhite x = new EvenWhite();
        x.bound(0, 1);
        x.side(0, RIGHT, 0, 1);
        x.side(1, LEFT, 0, 1);
        for (int k = 0; k < 4; k++) {
            x.weight(k / 2, k % 2, 1);
        }
        fraction("left over", x.pair(0, 0, 4), x.pair(0, 0, 5), 1, 4);
        fraction("left over", x.pair(0, 1, 4), x.pair(0, 1, 5), -1, 4);
        due("told(4)", x.told(4), 0);
    }

    static void promise12_of_like_ones_the_first_by_the_one_then_the_one_behind() {
        EvenWhite x = uneven(1);
        x.weight(0, 0, 2);
        due("told(4), three alike", x.told(4), 1);
        x.weight(0, 1, 2);
        due("told(4), two alike", x.told(4), 10);
        x.weight(1, 0, 2);
        due("told(4), the last alone", x.told(4), 11);
    }

    static void promise12_a_pair_without_a_weight_is_never_worst() {
        EvenWhite x = deep();
        fraction("left over of 01", x.pair(0, 1, 4), x.pair(0, 1, 5), -240, 1);
        fraction("left over of 00", x.pair(0, 0, 4), x.pair(0, 0, 5), 0, 1);
        due("told(4)", x.told(4), 0);
    }

    static void promise12_squares_of_nothing_left_over_are_0_by_1() {
        EvenWhite x = uneven(1);
        x.weight(1, 1, 0);
        squares(x, 0, 1);
    }

    static void promise12_squares_are_in_lowest_terms() {
        squares(uneven(1), 1, 4);
        squares(uneven(2), 1, 1);
        squares(uneven(3), 9, 4);
        squares(uneven(30), 225, 1);
    }

    /** What is left over is 4 by 13 by the weight, of each pair: the sum of weight times its square is 4 by 13. */
    static void promise12_squares_are_taken_by_the_weight() {
        EvenWhite x = uneven(1);
        x.weight(0, 1, 4);
        squares(x, 4, 13);
        x.weight(0, 0, 4);
        x.weight(1, 0, 4);
        x.weight(1, 1, 4);
        squares(x, 1, 1);
    }

    static void promise12_squares_do_not_hang_on_W() {
        EvenWhite x = uneven(1);
        x.bound(1, 0);
        squares(x, 1, 4);
        x.bound(1, 500);
        squares(x, 1, 4);
    }

    static void promise12_the_most_and_the_fewest_open_spaces() {
        for (int n = 1; n <= 3; n++) {
            EvenWhite x = of(n);
            due("told(7) without weights", x.told(7), 2 * n);
            for (int k = 0; k < n * n; k++) {
                x.weight(k / n, k % n, 4);
            }
            due("told(7), all weights", x.told(7), 1);
        }
    }

    static void promise12_the_empty_line() {
        EvenWhite x = new EvenWhite();
        due("told(8)", x.told(8), 0);
        wide(x, 0, 1);
        due("told(11)", x.told(11), NONE);
        due("told(12)", x.told(12), 4);
    }

    static void promise12_the_line_of_one_letter() {
        EvenWhite x = line(halves(), 0);
        due("told(8)", x.told(8), 1);
        wide(x, 10, 1);
        due("told(11)", x.told(11), NONE);
        due("told(12), a:10/1", x.told(12), 6);
    }

    static void promise12_the_line_of_two_letters() {
        EvenWhite x = line(halves(), 0, 1);
        due("told(8)", x.told(8), 2);
        wide(x, 41, 2);
        due("told(11)", x.told(11), 0);
        due("told(12), a=b:41/2", x.told(12), 8);
    }

    static void promise12_the_full_line() {
        EvenWhite x = eachAlone(1, 500);
        x.body(0, 50);
        for (int i = 0; i < 16; i++) {
            x.set(0);
        }
        due("told(8)", x.told(8), 16);
        wide(x, 16 * 100 + 15 * 125, 2);
        due("told(11)", x.told(11), 0);
        due("told(12), 16 letters, 15 between, :3475/2", x.told(12), 38);
    }

    static void promise12_wide_is_without_left_of_the_first_and_right_of_the_last() {
        wide(line(halves(), 0, 1), 41, 2);
        wide(line(halves(), 1, 0), 41, 2);
        wide(line(halves(), 0, 0), 21, 1);
        wide(line(halves(), 1, 1), 20, 1);
        wide(line(halves(), 0, 0, 0), 32, 1);
    }

    static void promise12_wide_is_in_lowest_terms() {
        EvenWhite x = eachAlone(1, 4);
        wide(line(x, 0, 0), 41, 2);
        wide(line(x, 0, 0, 0), 31, 1);
        x.bound(1, 2);
        wide(line(x, 0, 0), 81, 4);
        wide(line(x, 0, 0, 0), 61, 2);
    }

    static void promise12_wide_may_be_below_0() {
        EvenWhite x = deep();
        x.body(0, 1);
        wide(line(x, 0, 0), -58, 1);
        x.side(0, LEFT, 7, 29);
        wide(line(x, 0, 0), 2 * 8 - 479, 8);
    }

    static void promise12_wide_may_be_0_with_letters() {
        EvenWhite x = back(of(1), 0, LEFT, 16);
        x.bound(1, 0);
        x.body(0, 1);
        x.weight(0, 0, 1);
        wide(line(x, 0, 0), 0, 1);
    }

    static void promise12_thin_is_the_first_place() {
        EvenWhite x = back(new EvenWhite(), 0, LEFT, 5);
        due("told(11)", line(x, 0, 1, 0, 0).told(11), 0);
    }

    static void promise12_thin_is_the_last_place_of_a_full_line() {
        EvenWhite x = back(new EvenWhite(), 0, LEFT, 5);
        due("told(11)", line(x, 0, 0, 0, 0, 0, 0, 0, 0, 0, 0, 0, 0, 0, 0, 0, 1).told(11), 14);
    }

    static void promise12_thin_is_the_first_of_like_ones() {
        due("told(11)", line(halves(), 0, 0, 1, 0, 1, 1).told(11), 2);
        due("told(11), all alike", line(new EvenWhite(), 0, 1, 1, 0).told(11), 0);
    }

    static void promise12_thin_may_have_white_below_0() {
        due("told(11)", line(deep(), 0, 0, 1, 0).told(11), 1);
    }

    static void promise12_none_and_eight_can_be_undone() {
        EvenWhite x = new EvenWhite();
        for (int changes = 0; changes < 12; changes++) {
            due("told(13)", x.told(13), Math.min(changes, 8));
            x.turn();
        }
    }

    // ---- promise 13: letter

    static void promise13_what_below_0_is_outside() {
        refused("letter(0, -1)", x -> x.letter(0, -1), OUTSIDE);
        refused("letter(0, LEAST)", x -> x.letter(0, LEAST), OUTSIDE);
    }

    static void promise13_what_above_3_is_outside() {
        refused("letter(0, 4)", x -> x.letter(0, 4), OUTSIDE);
        refused("letter(0, MOST)", x -> x.letter(0, MOST), OUTSIDE);
    }

    static void promise13_the_last_letter_is_one_less_than_there_are() {
        for (int n = 1; n <= 3; n++) {
            EvenWhite x = of(n);
            due("letter, the last of " + n, x.letter(n - 1, 0), 10);
            due("letter, one behind the last of " + n, x.letter(n, 0), UNKNOWN);
        }
    }

    static void promise13_a_letter_that_there_is_not_is_unknown() {
        refused("letter(-1, 0)", x -> x.letter(-1, 0), UNKNOWN);
        refused("letter(3, 0)", x -> x.letter(3, 0), UNKNOWN);
        refused("letter(LEAST, 0)", x -> x.letter(LEAST, 0), UNKNOWN);
        refused("letter(MOST, 0)", x -> x.letter(MOST, 0), UNKNOWN);
    }

    static void promise13_unknown_is_told_ahead_of_outside() {
        refused("letter(3, 4)", x -> x.letter(3, 4), UNKNOWN);
        refused("letter(-1, -1)", x -> x.letter(-1, -1), UNKNOWN);
    }

    static void promise13_sums_of_sides_without_anything() {
        EvenWhite x = new EvenWhite();
        due("letter(1, 1)", x.letter(1, 1), 1);
        due("letter(1, 2)", x.letter(1, 2), 0);
        due("letter(1, 3)", x.letter(1, 3), 0);
    }

    static void promise13_sums_of_sides_that_go_back_as_far_as_can_be() {
        EvenWhite x = backAll(new EvenWhite(), 1, 30);
        due("letter(1, 1)", x.letter(1, 1), 1);
        due("letter(1, 2)", x.letter(1, 2), 240);
        due("letter(1, 3)", x.letter(1, 3), 240);
        due("letter(0, 2)", x.letter(0, 2), 0);
        due("letter(0, 3)", x.letter(0, 3), 0);
    }

    static void promise13_sums_take_the_first_and_the_last_height() {
        EvenWhite x = back(back(new EvenWhite(), 0, LEFT, 1, 0, 0, 0, 0, 0, 0, 2), 0, RIGHT, 4, 0, 0, 0, 0, 0, 0, 8);
        due("letter(0, 2)", x.letter(0, 2), 3);
        due("letter(0, 3)", x.letter(0, 3), 12);
    }

    static void promise13_unlike_at_one_height_alone() {
        for (int height = 0; height < 8; height++) {
            EvenWhite x = backAll(new EvenWhite(), 0, 7);
            x.side(0, RIGHT, height, 8);
            due("letter(0, 1), height " + height, x.letter(0, 1), 0);
        }
    }

    static void promise13_sides_of_like_sums_may_be_unlike() {
        EvenWhite x = back(back(new EvenWhite(), 0, LEFT, 5, 0), 0, RIGHT, 0, 5);
        due("letter(0, 1)", x.letter(0, 1), 0);
    }

    // ---- promise 14: back

    static void promise14_the_first_and_the_last_height() {
        EvenWhite x = back(new EvenWhite(), 1, RIGHT, 1, 0, 0, 0, 0, 0, 0, 30);
        due("back(1, 1, 0)", x.back(1, RIGHT, 0), 1);
        due("back(1, 1, 7)", x.back(1, RIGHT, 7), 30);
        due("back(1, 0, 7)", x.back(1, LEFT, 7), 0);
    }

    static void promise14_a_height_below_0_is_unknown() {
        refused("back(1, 1, -1)", x -> x.back(1, 1, -1), UNKNOWN);
        refused("back(1, 1, LEAST)", x -> x.back(1, 1, LEAST), UNKNOWN);
    }

    static void promise14_a_height_above_7_is_unknown() {
        refused("back(0, 0, 8)", x -> x.back(0, 0, 8), UNKNOWN);
        refused("back(0, 0, MOST)", x -> x.back(0, 0, MOST), UNKNOWN);
    }

    static void promise14_a_side_below_0_is_outside() {
        refused("back(1, -1, 0)", x -> x.back(1, -1, 0), OUTSIDE);
        refused("back(1, LEAST, 0)", x -> x.back(1, LEAST, 0), OUTSIDE);
    }

    static void promise14_a_side_above_1_is_outside() {
        refused("back(0, 2, 0)", x -> x.back(0, 2, 0), OUTSIDE);
        refused("back(0, MOST, 0)", x -> x.back(0, MOST, 0), OUTSIDE);
    }

    static void promise14_the_last_letter_is_one_less_than_there_are() {
        for (int n = 1; n <= 3; n++) {
            EvenWhite x = of(n);
            due("back, the last of " + n, x.back(n - 1, 0, 0), 0);
            due("back, one behind the last of " + n, x.back(n, 0, 0), UNKNOWN);
        }
    }

    static void promise14_a_letter_that_there_is_not_is_unknown() {
        refused("back(-1, 0, 0)", x -> x.back(-1, 0, 0), UNKNOWN);
        refused("back(3, 0, 0)", x -> x.back(3, 0, 0), UNKNOWN);
        refused("back(LEAST, 0, 0)", x -> x.back(LEAST, 0, 0), UNKNOWN);
        refused("back(MOST, 0, 0)", x -> x.back(MOST, 0, 0), UNKNOWN);
    }

    static void promise14_unknown_is_told_ahead_of_outside() {
        refused("back(3, 2, 0)", x -> x.back(3, 2, 0), UNKNOWN);
        refused("back(-1, -1, 0)", x -> x.back(-1, -1, 0), UNKNOWN);
        refused("back(0, 2, 8)", x -> x.back(0, 2, 8), UNKNOWN);
        refused("back(0, -1, -1)", x -> x.back(0, -1, -1), UNKNOWN);
    }

    // ---- promise 15: space

    static void promise15_what_below_0_is_outside() {
        refused("space(0, 0, -1)", x -> x.space(0, 0, -1), OUTSIDE);
        refused("space(0, 0, LEAST)", x -> x.space(0, 0, LEAST), OUTSIDE);
    }

    static void promise15_what_above_3_is_outside() {
        refused("space(0, 0, 4)", x -> x.space(0, 0, 4), OUTSIDE);
        refused("space(0, 0, MOST)", x -> x.space(0, 0, MOST), OUTSIDE);
    }

    static void promise15_a_side_below_0_is_outside() {
        refused("space(1, -1, 0)", x -> x.space(1, -1, 0), OUTSIDE);
        refused("space(1, LEAST, 0)", x -> x.space(1, LEAST, 0), OUTSIDE);
    }

    static void promise15_a_side_above_1_is_outside() {
        refused("space(0, 2, 0)", x -> x.space(0, 2, 0), OUTSIDE);
        refused("space(0, MOST, 0)", x -> x.space(0, MOST, 0), OUTSIDE);
    }

    static void promise15_the_last_letter_is_one_less_than_there_are() {
        for (int n = 1; n <= 3; n++) {
            EvenWhite x = of(n);
            due("space, the last of " + n, x.space(n - 1, 1, 1), 1);
            due("space, one behind the last of " + n, x.space(n, 1, 1), UNKNOWN);
        }
    }

    static void promise15_a_letter_that_there_is_not_is_unknown() {
        refused("space(-1, 0, 0)", x -> x.space(-1, 0, 0), UNKNOWN);
        refused("space(3, 0, 0)", x -> x.space(3, 0, 0), UNKNOWN);
        refused("space(LEAST, 0, 0)", x -> x.space(LEAST, 0, 0), UNKNOWN);
        refused("space(MOST, 0, 0)", x -> x.space(MOST, 0, 0), UNKNOWN);
    }

    static void promise15_unknown_is_told_ahead_of_outside() {
        refused("space(3, 2, 0)", x -> x.space(3, 2, 0), UNKNOWN);
        refused("space(3, 0, 4)", x -> x.space(3, 0, 4), UNKNOWN);
        refused("space(-1, -1, -1)", x -> x.space(-1, -1, -1), UNKNOWN);
    }

    static void promise15_a_space_of_0_is_0_by_1() {
        EvenWhite x = eachAlone(1, 0);
        space(x, 0, RIGHT, 0, 1);
        open(x, 0, 1);
    }

    static void promise15_spaces_are_in_lowest_terms() {
        long[][] want = {{1, 8}, {1, 4}, {3, 8}, {1, 2}, {5, 8}, {3, 4}, {7, 8}, {1, 1}, {9, 8}};
        for (int wanted = 1; wanted <= 9; wanted++) {
            space(eachAlone(1, wanted), 0, RIGHT, want[wanted - 1][0], want[wanted - 1][1]);
        }
    }

    static void promise15_the_greatest_and_the_least_of_one_letter() {
        space(eachAlone(1, 500), 0, RIGHT, 125, 2);
        EvenWhite x = backAll(eachAlone(1, 0), 0, 30);
        x.bound(0, 60);
        space(x, 0, RIGHT, -60, 1);
    }

    static void promise15_a_space_below_0_has_its_sign_above() {
        EvenWhite x = back(eachAlone(1, 0), 0, LEFT, 6);
        space(x, 0, RIGHT, -3, 4);
    }

    static void promise15_without_weights_all_are_open_and_0() {
        EvenWhite x = backAll(of(3), 1, 9);
        open(x, 1, 1, 1, 1, 1, 1);
        for (int k = 0; k < 6; k++) {
            space(x, k / 2, k % 2, 0, 1);
        }
    }

    static void promise15_of_one_pair_the_left_space_is_open() {
        EvenWhite x = new EvenWhite();
        x.weight(1, 0, 1);
        open(x, 1, 0, 1, 1);
        space(x, 1, RIGHT, 25, 2);
        space(x, 0, LEFT, 0, 1);
    }

    static void promise15_of_all_pairs_the_last_left_space_alone_is_open() {
        EvenWhite x = of(3);
        for (int k = 0; k < 9; k++) {
            x.weight(k / 3, k % 3, 4);
        }
        open(x, 0, 0, 0, 0, 0, 1);
    }

    /** Right of 0 meets left of 1, right of 1 meets left of 1 and left of 2: one chain, its last is open. */
    static void promise15_of_a_chain_the_last_in_order_is_open() {
        EvenWhite x = of(3);
        x.weight(0, 1, 1);
        x.weight(1, 1, 2);
        x.weight(1, 2, 3);
        open(x, 0, 0, 1, 1, 0, 1);
    }

    /** A chain of right spaces that meet in one left space, which is the last of them: all right ones are closed. */
    static void promise15_of_those_that_meet_in_the_first_left_space_that_one_is_open() {
        EvenWhite x = of(3);
        for (int one = 0; one < 3; one++) {
            x.weight(one, 0, 1);
        }
        open(x, 0, 0, 0, 1, 1, 1);
    }

    static void promise15_of_two_groups_each_has_an_open_one() {
        EvenWhite x = of(3);
        x.weight(0, 2, 1);
        x.weight(2, 0, 1);
        x.weight(2, 1, 1);
        open(x, 0, 1, 0, 0, 1, 1);
    }

    static void promise15_a_weight_of_0_closes_nothing() {
        EvenWhite x = new EvenWhite();
        x.weight(0, 1, 4);
        x.weight(0, 1, 0);
        open(x, 1, 1, 1, 1);
    }

    static void promise15_whole_as_it_is_where_nothing_is_left() {
        whole(eachAlone(3, 8), 1, 1, 1, 0, 0, 0);
        whole(eachAlone(3, 16), 2, 2, 2, 0, 0, 0);
    }

    static void promise15_whole_of_a_sum_between_two_is_the_greater() {
        whole(eachAlone(1, 4), 1, 0);
        whole(eachAlone(1, 12), 2, 0);
        whole(eachAlone(3, 12), 2, 2, 1, 0, 0, 0);
    }

    static void promise15_whole_of_a_sum_just_below_and_just_above_the_half() {
        whole(eachAlone(1, 3), 0, 0);
        whole(eachAlone(1, 5), 1, 0);
    }

    static void promise15_whole_below_0() {
        whole(back(eachAlone(1, 0), 0, LEFT, 3), 0, 0);
        whole(back(eachAlone(1, 0), 0, LEFT, 5), -1, 0);
        whole(back(eachAlone(1, 0), 0, LEFT, 8), -1, 0);
        whole(back(eachAlone(1, 0), 0, LEFT, 11), -1, 0);
        whole(back(eachAlone(1, 0), 0, LEFT, 13), -2, 0);
    }

    static void promise15_whole_of_a_sum_between_two_below_0_is_the_greater() {
        whole(back(eachAlone(1, 0), 0, LEFT, 4), 0, 0);
        whole(back(eachAlone(1, 0), 0, LEFT, 12), -1, 0);
    }

    static void promise15_whole_of_like_rests_the_first() {
        whole(eachAlone(3, 3), 1, 0, 0, 0, 0, 0);
        whole(eachAlone(3, 5), 1, 1, 0, 0, 0, 0);
        whole(eachAlone(2, 4), 1, 0, 0, 0);
    }

    static void promise15_whole_of_like_rests_right_ahead_of_left() {
        space(halves(), 0, RIGHT, 1, 2);
        space(halves(), 0, LEFT, 1, 2);
        whole(halves(), 1, 0, 0, 0);
    }

    static void promise15_whole_of_unlike_rests_the_greatest() {
        EvenWhite x = eachAlone(2, 8);
        x.side(0, LEFT, 0, 5);
        x.side(1, LEFT, 0, 1);
        whole(x, 0, 1, 0, 0);
    }

    static void promise15_whole_of_all_that_have_a_rest_one_more() {
        whole(eachAlone(3, 7), 1, 1, 1, 0, 0, 0);
    }

    static void promise15_whole_of_none_that_has_a_rest_one_more() {
        whole(eachAlone(3, 1), 0, 0, 0, 0, 0, 0);
    }

    /** Right 397 by 32 and 399 by 32, left of 0 -1 by 16: the sum is nearest to 25, of which 23 are there. */
    static void promise15_whole_of_a_space_just_below_0_is_0() {
        EvenWhite x = uneven(1);
        space(x, 0, LEFT, -1, 16);
        whole(x, 12, 13, 0, 0);
    }

    static void promise15_all_weights_as_great_as_can_be() {
        EvenWhite x = of(3);
        x.bound(1, 500);
        for (int k = 0; k < 9; k++) {
            x.weight(k / 3, k % 3, 4);
        }
        for (int letter = 0; letter < 3; letter++) {
            space(x, letter, RIGHT, 125, 2);
            space(x, letter, LEFT, 0, 1);
        }
        whole(x, 63, 63, 62, 0, 0, 0);
    }

    // ---- promise 16: pair

    static void promise16_what_below_0_is_outside() {
        refused("pair(0, 0, -1)", x -> x.pair(0, 0, -1), OUTSIDE);
        refused("pair(0, 0, LEAST)", x -> x.pair(0, 0, LEAST), OUTSIDE);
    }

    static void promise16_what_above_5_is_outside() {
        refused("pair(0, 0, 6)", x -> x.pair(0, 0, 6), OUTSIDE);
        refused("pair(0, 0, MOST)", x -> x.pair(0, 0, MOST), OUTSIDE);
    }

    static void promise16_the_last_letter_is_one_less_than_there_are() {
        for (int n = 1; n <= 3; n++) {
            EvenWhite x = of(n);
            due("pair of the last of " + n, x.pair(n - 1, n - 1, 3), 1);
            due("pair of one behind the last of " + n, x.pair(n, 0, 3), UNKNOWN);
            due("pair of one ahead, one behind the last of " + n, x.pair(0, n, 3), UNKNOWN);
        }
    }

    static void promise16_a_first_letter_that_there_is_not_is_unknown() {
        refused("pair(-1, 0, 0)", x -> x.pair(-1, 0, 0), UNKNOWN);
        refused("pair(3, 0, 0)", x -> x.pair(3, 0, 0), UNKNOWN);
        refused("pair(LEAST, 0, 0)", x -> x.pair(LEAST, 0, 0), UNKNOWN);
        refused("pair(MOST, 0, 0)", x -> x.pair(MOST, 0, 0), UNKNOWN);
    }

    static void promise16_a_letter_behind_that_there_is_not_is_unknown() {
        refused("pair(1, -1, 0)", x -> x.pair(1, -1, 0), UNKNOWN);
        refused("pair(1, 3, 0)", x -> x.pair(1, 3, 0), UNKNOWN);
        refused("pair(1, LEAST, 0)", x -> x.pair(1, LEAST, 0), UNKNOWN);
        refused("pair(1, MOST, 0)", x -> x.pair(1, MOST, 0), UNKNOWN);
    }

    static void promise16_unknown_is_told_ahead_of_outside() {
        refused("pair(3, 0, 6)", x -> x.pair(3, 0, 6), UNKNOWN);
        refused("pair(0, -1, -1)", x -> x.pair(0, -1, -1), UNKNOWN);
    }

    static void promise16_the_least_and_the_greatest_weight() {
        EvenWhite x = new EvenWhite();
        due("pair(0, 1, 0)", x.pair(0, 1, 0), 0);
        x.weight(0, 1, 4);
        due("pair(0, 1, 0)", x.pair(0, 1, 0), 4);
        due("pair(1, 0, 0)", x.pair(1, 0, 0), 0);
    }

    static void promise16_bare_of_sides_without_anything_is_0() {
        due("pair(0, 1, 1)", new EvenWhite().pair(0, 1, 1), 0);
    }

    static void promise16_bare_of_sides_as_far_back_as_can_be() {
        EvenWhite x = backAll(new EvenWhite(), 0, 30);
        x.bound(0, 60);
        due("pair(0, 0, 1)", x.pair(0, 0, 1), 480);
        due("pair(0, 1, 1)", x.pair(0, 1, 1), 240);
        x.bound(0, 1);
        due("pair(0, 0, 1)", x.pair(0, 0, 1), 8);
    }

    /** 9 and 10 are just below D 20, 10 and 10 as much, 11 and 10 above it. */
    static void promise16_bare_is_no_deeper_than_D_at_each_height() {
        EvenWhite x = new EvenWhite();
        x.side(1, LEFT, 7, 10);
        int[][] want = {{9, 19}, {10, 20}, {11, 20}, {30, 20}};
        for (int[] a : want) {
            x.side(0, RIGHT, 7, a[0]);
            due("pair(0, 1, 1) by " + a[0], x.pair(0, 1, 1), a[1]);
        }
        x.side(0, RIGHT, 0, 15);
        x.side(1, LEFT, 0, 4);
        due("pair(0, 1, 1), two heights", x.pair(0, 1, 1), 39);
    }

    static void promise16_bare_takes_the_right_of_the_one_and_the_left_of_the_other() {
        EvenWhite x = back(back(new EvenWhite(), 0, LEFT, 7), 1, RIGHT, 5);
        long[] want = {7, 0, 12, 5};
        for (int k = 0; k < 4; k++) {
            due("bare of " + k / 2 + k % 2, x.pair(k / 2, k % 2, 1), want[k]);
        }
    }

    static void promise16_white_without_weights_is_bare() {
        EvenWhite x = back(new EvenWhite(), 0, RIGHT, 7);
        fraction("white", x.pair(0, 1, 2), x.pair(0, 1, 3), 7, 1);
        fraction("left over", x.pair(0, 1, 4), x.pair(0, 1, 5), -93, 1);
    }

    static void promise16_white_and_left_over_are_in_lowest_terms() {
        EvenWhite x = uneven(2);
        fraction("white", x.pair(0, 0, 2), x.pair(0, 0, 3), 199, 2);
        fraction("left over", x.pair(0, 0, 4), x.pair(0, 0, 5), -1, 2);
        EvenWhite y = uneven(4);
        fraction("white", y.pair(0, 1, 2), y.pair(0, 1, 3), 101, 1);
        fraction("left over", y.pair(0, 1, 4), y.pair(0, 1, 5), 1, 1);
    }

    static void promise16_nothing_left_over_is_0_by_1() {
        EvenWhite x = eachAlone(1, 500);
        fraction("white", x.pair(0, 0, 2), x.pair(0, 0, 3), 500, 1);
        fraction("left over", x.pair(0, 0, 4), x.pair(0, 0, 5), 0, 1);
    }

    static void promise16_white_of_0_is_0_by_1() {
        EvenWhite x = deep();
        fraction("white", x.pair(0, 0, 2), x.pair(0, 0, 3), 0, 1);
        fraction("left over", x.pair(0, 0, 4), x.pair(0, 0, 5), 0, 1);
    }

    static void promise16_white_below_0_has_its_sign_above() {
        EvenWhite x = deep();
        x.bound(1, 500);
        x.bound(1, 1);
        fraction("white", x.pair(0, 1, 2), x.pair(0, 1, 3), -239, 1);
        fraction("left over", x.pair(0, 1, 4), x.pair(0, 1, 5), -240, 1);
    }

    // ---- promise 17: white

    static void promise17_the_last_letter_is_one_less_than_there_are() {
        for (int n = 1; n <= 3; n++) {
            EvenWhite x = of(n);
            due("white of the last of " + n, x.white(n - 1, n - 1), 0);
            due("white of one behind the last of " + n, x.white(n, 0), UNKNOWN);
            due("white of one ahead, one behind the last of " + n, x.white(0, n), UNKNOWN);
        }
    }

    static void promise17_a_first_letter_that_there_is_not_is_unknown() {
        refused("white(-1, 0)", x -> x.white(-1, 0), UNKNOWN);
        refused("white(3, 0)", x -> x.white(3, 0), UNKNOWN);
        refused("white(LEAST, 0)", x -> x.white(LEAST, 0), UNKNOWN);
        refused("white(MOST, 0)", x -> x.white(MOST, 0), UNKNOWN);
    }

    static void promise17_a_letter_behind_that_there_is_not_is_unknown() {
        refused("white(0, -1)", x -> x.white(0, -1), UNKNOWN);
        refused("white(0, 3)", x -> x.white(0, 3), UNKNOWN);
        refused("white(0, LEAST)", x -> x.white(0, LEAST), UNKNOWN);
        refused("white(0, MOST)", x -> x.white(0, MOST), UNKNOWN);
    }

    static void promise17_spaces_between_two_whole_ones() {
        due("white(0, 0), half more", eachAlone(1, 4).white(0, 0), 8);
        due("white(0, 0), less than half", eachAlone(1, 3).white(0, 0), 0);
        due("white(0, 0), as it is", eachAlone(1, 16).white(0, 0), 16);
    }

    static void promise17_spaces_right_of_the_one_and_left_of_the_other() {
        EvenWhite x = uneven(1);
        long[] want = {97, 97, 105, 104};
        for (int k = 0; k < 4; k++) {
            due("white of " + k / 2 + k % 2, x.white(k / 2, k % 2), want[k]);
        }
    }

    /** Right of 0 is 2, left of 0 is 1, the others are open. */
    static void promise17_spaces_that_are_whole_at_both_sides() {
        EvenWhite x = halves();
        x.bound(1, 24);
        x.side(1, LEFT, 0, 8);
        whole(x, 2, 0, 1, 0);
        long[] want = {24, 24, 8, 8};
        for (int k = 0; k < 4; k++) {
            due("white of " + k / 2 + k % 2, x.white(k / 2, k % 2), want[k]);
        }
    }

    static void promise17_the_greatest() {
        EvenWhite x = eachAlone(1, 500);
        due("white(0, 0)", x.white(0, 0), 504);
    }

    static void promise17_below_0() {
        due("white(0, 1)", deep().white(0, 1), -240);
        due("white(0, 0)", deep().white(0, 0), 0);
        due("white(1, 0)", deep().white(1, 0), 240);
    }
}
